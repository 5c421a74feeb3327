section G_31_FamilyChartModel04
variable {l : Launch} {dC : Nat → ClassId} {dI : Nat → Nat → Nat} {cI cJ cZ : ClassId} {adK adV : Nat → Nat}
def p10_readPerson_J87 (m_buffer : Nat → Int32) (m_fam : Nat → Int64) (m_limit : Int32) (m_next_87 : Int32) (m_beginsAt_87 : Int32) (m_token_87 : Int32) (m_error_87 : Int32) (m_errorAt_87 : Int32) : Option (Int32 × Int32 × Int32 × (Nat → Int64) × Int32 × Int32) := (if m_error_87 = (0 : Int32) then ob (p10_persons m_fam) (fun r96 => ob (p10_nameHere m_next_87 m_beginsAt_87 m_buffer) (fun r104 => ob (p10_putPerson m_fam r96 (2 : Int32) r104) (fun m_fam_107 => ob (p10_putPerson m_fam_107 r96 (3 : Int32) ((m_next_87 - m_beginsAt_87).toInt64)) (fun m_fam_123 => ob (p10_putPerson m_fam_123 r96 (1 : Int32) (-1 : Int64)) (fun m_fam_132 => ob (p10_advance m_limit m_next_87 m_beginsAt_87 m_token_87 m_error_87 m_buffer) (uc3 fun m_beginsAt_136 m_next_136 m_token_136 => ob (p10_readNumber m_limit m_next_136 m_beginsAt_136 m_token_136 m_error_87 m_errorAt_87 m_buffer (0 : Int32) (2100 : Int32)) (uc6 fun r147 m_beginsAt_147 m_error_147 m_errorAt_147 m_next_147 m_token_147 => ob (p10_putPerson m_fam_132 r96 (0 : Int32) r147.toInt64) (fun m_fam_151 => gd (0 : Int32) 130 (gd (0 : Int32) 130 (lb (vp_updL m_fam_151 (0 : Int32).toNatClampNeg ((m_fam_151 (0 : Int32).toNatClampNeg) + (1 : Int64))) (fun g163 => some (m_beginsAt_147, m_error_147, m_errorAt_147, g163, m_next_147, m_token_147)))))))))))) else some (m_beginsAt_87, m_error_87, m_errorAt_87, m_fam, m_next_87, m_token_87))
def p10_readPerson_J62 (m_buffer : Nat → Int32) (m_fam : Nat → Int64) (m_limit : Int32) (m_next_62 : Int32) (m_beginsAt_62 : Int32) (m_token_62 : Int32) (m_error_62 : Int32) (m_errorAt_62 : Int32) : Option (Int32 × Int32 × Int32 × (Nat → Int64) × Int32 × Int32) := (if m_error_62 = (0 : Int32) then ob (p10_personHere m_next_62 m_beginsAt_62 m_token_62 m_buffer m_fam) (fun r71 => (if r71 = (-1 : Int32) then lb (p10_check m_beginsAt_62 m_error_62 m_errorAt_62 true (4 : Int32)) (uc2 fun m_error_84 m_errorAt_84 => (p10_readPerson_J87 m_buffer m_fam m_limit m_next_62 m_beginsAt_62 m_token_62 m_error_84 m_errorAt_84)) else lb (p10_check m_beginsAt_62 m_error_62 m_errorAt_62 false (4 : Int32)) (uc2 fun m_error_84 m_errorAt_84 => (p10_readPerson_J87 m_buffer m_fam m_limit m_next_62 m_beginsAt_62 m_token_62 m_error_84 m_errorAt_84)))) else lb (p10_check m_beginsAt_62 m_error_62 m_errorAt_62 true (4 : Int32)) (uc2 fun m_error_84 m_errorAt_84 => (p10_readPerson_J87 m_buffer m_fam m_limit m_next_62 m_beginsAt_62 m_token_62 m_error_84 m_errorAt_84)))
def p10_readPerson_J19 (m_beginsAt : Int32) (m_buffer : Nat → Int32) (m_fam : Nat → Int64) (m_limit : Int32) (m_next : Int32) (m_token : Int32) (m_error_19 : Int32) (m_errorAt_19 : Int32) : Option (Int32 × Int32 × Int32 × (Nat → Int64) × Int32 × Int32) := ob (p10_advance m_limit m_next m_beginsAt m_token m_error_19 m_buffer) (uc3 fun m_beginsAt_20 m_next_20 m_token_20 => (if m_error_19 = (0 : Int32) then (if m_token_20 = (1 : Int32) then (if (8 : Int32) < (m_next_20 - m_beginsAt_20) then lb (p10_check m_beginsAt_20 m_error_19 m_errorAt_19 false (1 : Int32)) (uc2 fun m_error_59 m_errorAt_59 => (p10_readPerson_J62 m_buffer m_fam m_limit m_next_20 m_beginsAt_20 m_token_20 m_error_59 m_errorAt_59)) else lb (p10_check m_beginsAt_20 m_error_19 m_errorAt_19 true (1 : Int32)) (uc2 fun m_error_59 m_errorAt_59 => (p10_readPerson_J62 m_buffer m_fam m_limit m_next_20 m_beginsAt_20 m_token_20 m_error_59 m_errorAt_59))) else lb (p10_check m_beginsAt_20 m_error_19 m_errorAt_19 false (1 : Int32)) (uc2 fun m_error_59 m_errorAt_59 => (p10_readPerson_J62 m_buffer m_fam m_limit m_next_20 m_beginsAt_20 m_token_20 m_error_59 m_errorAt_59))) else lb (p10_check m_beginsAt_20 m_error_19 m_errorAt_19 true (1 : Int32)) (uc2 fun m_error_59 m_errorAt_59 => (p10_readPerson_J62 m_buffer m_fam m_limit m_next_20 m_beginsAt_20 m_token_20 m_error_59 m_errorAt_59))))
def p10_readPerson (m_limit : Int32) (m_next : Int32) (m_beginsAt : Int32) (m_token : Int32) (m_error : Int32) (m_errorAt : Int32) (m_buffer : Nat → Int32) (m_fam : Nat → Int64) : Option (Int32 × Int32 × Int32 × (Nat → Int64) × Int32 × Int32) := ob (p10_persons m_fam) (fun r2 => (if (16 : Int32) ≤ r2 then lb (p10_check m_beginsAt m_error m_errorAt false (3 : Int32)) (uc2 fun m_error_16 m_errorAt_16 => (p10_readPerson_J19 m_beginsAt m_buffer m_fam m_limit m_next m_token m_error_16 m_errorAt_16)) else lb (p10_check m_beginsAt m_error m_errorAt true (3 : Int32)) (uc2 fun m_error_16 m_errorAt_16 => (p10_readPerson_J19 m_beginsAt m_buffer m_fam m_limit m_next m_token m_error_16 m_errorAt_16))))
set_option maxHeartbeats 4000000 in
set_option maxRecDepth 100000 in
theorem c_X10_readPerson (ad : Nat → Nat) (a_m_fam : Nat) (m_undoCount : Int32) (m_thrown : Int32) (m_hasSnapshot : Bool) (m_rows : Int32) (m_lineLength : Int32) (m_formattedLength : Int32) (m_bufferLength : Int32) (m_limit : Int32) (m_next : Int32) (m_beginsAt : Int32) (m_token : Int32) (m_error : Int32) (m_errorAt : Int32) (m_errorPosition : Int32) (m_nested : Int32) (m_codeCount : Int32) (m_buffer : Nat → Int32) (m_fam : Nat → Int64) (m_beginsAt_9 : Int32) (m_error_9 : Int32) (m_errorAt_9 : Int32) (m_fam_9 : Nat → Int64) (m_next_9 : Int32) (m_token_9 : Int32) (hf : p10_readPerson m_limit m_next m_beginsAt m_token m_error m_errorAt m_buffer m_fam = some (m_beginsAt_9, m_error_9, m_errorAt_9, m_fam_9, m_next_9, m_token_9)) : gM l dC dI cI cJ cZ yX10_readPerson cX10_readPerson 2 none (5) (105) [.ref (ad 0)] [(ad 0, .inr (10, oM ad m_undoCount m_thrown m_hasSnapshot a_m_fam m_rows m_lineLength m_formattedLength m_bufferLength m_limit m_next m_beginsAt m_token m_error m_errorAt m_errorPosition m_nested m_codeCount)), ((ad 24), .inl (cI, 800, .inl m_buffer)), (a_m_fam, .inl (cJ, 130, .inr (.inl m_fam)))] [(ad 0, .inr (10, oM ad m_undoCount m_thrown m_hasSnapshot a_m_fam m_rows m_lineLength m_formattedLength m_bufferLength m_limit m_next_9 m_beginsAt_9 m_token_9 m_error_9 m_errorAt_9 m_errorPosition m_nested m_codeCount)), ((ad 24), .inl (cI, 800, .inl m_buffer)), (a_m_fam, .inl (cJ, 130, .inr (.inl m_fam_9)))] none := by
  refine g_start (own := RX10) (by decide +kernel) rfl (Nat.le_of_ble_eq_true rfl) ?_
  intro p e s m below meth c A ls S hr hlocks hE hP hD hS hA hl hin
  have hx := S.1
  have hb := S.2.1
  have hml := S.2.2.1
  have hown := S.2.2.2.1
  have htg : ∀ z ∈ gw, z.before ([.ref (ad 0)] : List Value).toArray s = true := fun w h => S.2.2.2.2 w (List.mem_cons_of_mem _ h)
  have hl : lv_has ls 2 [(0, .ref (ad 0))] := hl
  have hS0 := hS
  obtain ⟨H, hH⟩ : ∃ H, H = s.heap := ⟨_, rfl⟩
  obtain ⟨locs, hlc⟩ : ∃ locs : List Loc, locs = [] := ⟨_, rfl⟩
  have hS : va_S A s.heap H locs := by rw [hH, hlc]; exact hS0
  have hP : va_P (dC, dI) vwCl [(ad 0, .inr (10, oM ad m_undoCount m_thrown m_hasSnapshot a_m_fam m_rows m_lineLength m_formattedLength m_bufferLength m_limit m_next m_beginsAt m_token m_error m_errorAt m_errorPosition m_nested m_codeCount)), ((ad 24), .inl (cI, 800, .inl m_buffer)), (a_m_fam, .inl (cJ, 130, .inr (.inl m_fam)))] H := by rw [hH]; exact hP
  suffices hgo : W p l e ({ frames := 5, cells := 0, slots := 0, locals := 105 }) s m ([.ref (ad 0)] : List Value).toArray below meth c H locs 0 0 (MQ below (gQ dC dI none A [(ad 0, .inr (10, oM ad m_undoCount m_thrown m_hasSnapshot a_m_fam m_rows m_lineLength m_formattedLength m_bufferLength m_limit m_next_9 m_beginsAt_9 m_token_9 m_error_9 m_errorAt_9 m_errorPosition m_nested m_codeCount)), ((ad 24), .inl (cI, 800, .inl m_buffer)), (a_m_fam, .inl (cJ, 130, .inr (.inl m_fam_9)))]) ([.ref (ad 0)] : List Value).toArray s 0 0 A) (F0 m 0 ls []) by rw [hH, hlc] at hgo; exact hgo
  rw [p10_readPerson] at hf
  have J87 : ∀ (m_next_87 : Int32) (m_beginsAt_87 : Int32) (m_token_87 : Int32) (m_error_87 : Int32) (m_errorAt_87 : Int32) (H : Heap) (locs : List Loc) (ls : Array Slot), p10_readPerson_J87 m_buffer m_fam m_limit m_next_87 m_beginsAt_87 m_token_87 m_error_87 m_errorAt_87 = some (m_beginsAt_9, m_error_9, m_errorAt_9, m_fam_9, m_next_9, m_token_9) → va_P (dC, dI) vwCl [(ad 0, .inr (10, oM ad m_undoCount m_thrown m_hasSnapshot a_m_fam m_rows m_lineLength m_formattedLength m_bufferLength m_limit m_next_87 m_beginsAt_87 m_token_87 m_error_87 m_errorAt_87 m_errorPosition m_nested m_codeCount)), ((ad 24), .inl (cI, 800, .inl m_buffer)), (a_m_fam, .inl (cJ, 130, .inr (.inl m_fam)))] H → va_D A [(ad 0, .inr (10, oM ad m_undoCount m_thrown m_hasSnapshot a_m_fam m_rows m_lineLength m_formattedLength m_bufferLength m_limit m_next_87 m_beginsAt_87 m_token_87 m_error_87 m_errorAt_87 m_errorPosition m_nested m_codeCount)), ((ad 24), .inl (cI, 800, .inl m_buffer)), (a_m_fam, .inl (cJ, 130, .inr (.inl m_fam)))] → va_S A s.heap H locs → lv_has ls 2 [(0, .ref (ad 0))] → W p l e ({ frames := 5, cells := 0, slots := 0, locals := 105 }) s m ([.ref (ad 0)] : List Value).toArray below meth c H locs 0 0 (MQ below (gQ dC dI none A [(ad 0, .inr (10, oM ad m_undoCount m_thrown m_hasSnapshot a_m_fam m_rows m_lineLength m_formattedLength m_bufferLength m_limit m_next_9 m_beginsAt_9 m_token_9 m_error_9 m_errorAt_9 m_errorPosition m_nested m_codeCount)), ((ad 24), .inl (cI, 800, .inl m_buffer)), (a_m_fam, .inl (cJ, 130, .inr (.inl m_fam_9)))]) ([.ref (ad 0)] : List Value).toArray s 0 0 A) (F0 m 87 ls []) := by
    intro m_next_87 m_beginsAt_87 m_token_87 m_error_87 m_errorAt_87 H locs ls hf hP hD hS hl
    rw [p10_readPerson_J87] at hf
    refine lv_aload_n hx hb dX10_readPerson_87 rfl (lv_at hl 0 rfl) ?_
    refine va_get (D := (dC, dI)) (ci := 10) (v := .int m_error_87) (C := RX10) (T := TX10) (N := 37) hx hb htg inX10 hown hE.1 hP 0 rfl rfl 29 (by decide) (htg _ tw1411) (fun _ h9 => h9) rfl dX10_readPerson_88 ?_
    refine lv_if_eq (tgt := 95) hx hb dX10_readPerson_91 (by decide) (fun h9 => ?_) (fun h9 => ?_)
    · have hf := itt h9 hf
      refine lv_aload_n hx hb dX10_readPerson_95 rfl (lv_at hl 0 rfl) ?_
      obtain ⟨r96, h9, hf⟩ := ob_s hf
      refine gcV (index := 121) S hE (c_X10_persons ad a_m_fam m_undoCount m_thrown m_hasSnapshot m_rows m_lineLength m_formattedLength m_bufferLength m_limit m_next_87 m_beginsAt_87 m_token_87 m_error_87 m_errorAt_87 m_errorPosition m_nested m_codeCount m_fam r96 h9) mX10_persons tw1511 ⟨Nat.le_of_ble_eq_true rfl, Nat.le_of_ble_eq_true rfl⟩ hP hD hS hA ⟨Nat.zero_le _, Nat.zero_le _⟩ 0 10 rfl rfl rfl (wr := [((ad 24), .inl (cI, 800, .inl m_buffer))]) [0, 2] [1] rfl rfl rfl rfl (by decide) (As := []) (rest := []) rfl hl.1 rfl (Nat.le_of_ble_eq_true rfl) dX10_readPerson_96 (fun H locs hP hD hS => ?_)
      refine W.eq (g2 := F0 m 99 ls [.int r96]) rfl ?_
      have hP : va_P (dC, dI) vwCl [((ad 24), .inl (cI, 800, .inl m_buffer)), (ad 0, .inr (10, oM ad m_undoCount m_thrown m_hasSnapshot a_m_fam m_rows m_lineLength m_formattedLength m_bufferLength m_limit m_next_87 m_beginsAt_87 m_token_87 m_error_87 m_errorAt_87 m_errorPosition m_nested m_codeCount)), (a_m_fam, .inl (cJ, 130, .inr (.inl m_fam)))] H := hP
      have hD : va_D A [((ad 24), .inl (cI, 800, .inl m_buffer)), (ad 0, .inr (10, oM ad m_undoCount m_thrown m_hasSnapshot a_m_fam m_rows m_lineLength m_formattedLength m_bufferLength m_limit m_next_87 m_beginsAt_87 m_token_87 m_error_87 m_errorAt_87 m_errorPosition m_nested m_codeCount)), (a_m_fam, .inl (cJ, 130, .inr (.inl m_fam)))] := hD
      refine lv_istore_n (lv' := [(1, .int r96), (0, .ref (ad 0))]) hx hb dX10_readPerson_99 rfl hl (by decide) rfl (fun ls hl => ?_)
      refine lv_aload_n hx hb dX10_readPerson_100 rfl (lv_at hl 1 rfl) ?_
      refine lv_iload_n hx hb dX10_readPerson_101 rfl (lv_at hl 0 rfl) ?_
      refine lv_iconst (v := 2) hx hb dX10_readPerson_102 (by decide) ?_
      refine lv_aload_n hx hb dX10_readPerson_103 rfl (lv_at hl 1 rfl) ?_
      obtain ⟨r104, h9, hf⟩ := ob_s hf
      refine gcV (index := 434) S hE (c_X10_nameHere ad a_m_fam m_undoCount m_thrown m_hasSnapshot m_rows m_lineLength m_formattedLength m_bufferLength m_limit m_next_87 m_beginsAt_87 m_token_87 m_error_87 m_errorAt_87 m_errorPosition m_nested m_codeCount m_buffer r104 h9) mX10_nameHere tw1984 ⟨Nat.le_of_ble_eq_true rfl, Nat.le_of_ble_eq_true rfl⟩ hP hD hS hA ⟨Nat.zero_le _, Nat.zero_le _⟩ 1 10 rfl rfl rfl (wr := [(a_m_fam, .inl (cJ, 130, .inr (.inl m_fam)))]) [1, 0] [2] rfl rfl rfl rfl (by decide) (As := []) (rest := [.int (2 : Int32), .int r96, .ref (ad 0)]) rfl hl.1 rfl (Nat.le_of_ble_eq_true rfl) dX10_readPerson_104 (fun H locs hP hD hS => ?_)
      refine W.eq (g2 := F0 m 107 ls [.long r104, .int (2 : Int32), .int r96, .ref (ad 0)]) rfl ?_
      have hP : va_P (dC, dI) vwCl [(a_m_fam, .inl (cJ, 130, .inr (.inl m_fam))), (ad 0, .inr (10, oM ad m_undoCount m_thrown m_hasSnapshot a_m_fam m_rows m_lineLength m_formattedLength m_bufferLength m_limit m_next_87 m_beginsAt_87 m_token_87 m_error_87 m_errorAt_87 m_errorPosition m_nested m_codeCount)), ((ad 24), .inl (cI, 800, .inl m_buffer))] H := hP
      have hD : va_D A [(a_m_fam, .inl (cJ, 130, .inr (.inl m_fam))), (ad 0, .inr (10, oM ad m_undoCount m_thrown m_hasSnapshot a_m_fam m_rows m_lineLength m_formattedLength m_bufferLength m_limit m_next_87 m_beginsAt_87 m_token_87 m_error_87 m_errorAt_87 m_errorPosition m_nested m_codeCount)), ((ad 24), .inl (cI, 800, .inl m_buffer))] := hD
      obtain ⟨m_fam_107, h9, hf⟩ := ob_s hf
      refine gcV (index := 339) S hE (c_X10_putPerson ad a_m_fam m_undoCount m_thrown m_hasSnapshot m_rows m_lineLength m_formattedLength m_bufferLength m_limit m_next_87 m_beginsAt_87 m_token_87 m_error_87 m_errorAt_87 m_errorPosition m_nested m_codeCount m_fam r96 (2 : Int32) r104 m_fam_107 h9) mX10_putPerson tw1869 ⟨Nat.le_of_ble_eq_true rfl, Nat.le_of_ble_eq_true rfl⟩ hP hD hS hA ⟨Nat.zero_le _, Nat.zero_le _⟩ 1 10 rfl rfl rfl (wr := [((ad 24), .inl (cI, 800, .inl m_buffer))]) [1, 0] [2] rfl rfl rfl rfl (by decide) (As := [.int r96, .int (2 : Int32), .long r104]) (rest := []) rfl hl.1 rfl (Nat.le_of_ble_eq_true rfl) dX10_readPerson_107 (fun H locs hP hD hS => ?_)
      refine W.eq (g2 := F0 m 110 ls []) rfl ?_
      have hP : va_P (dC, dI) vwCl [((ad 24), .inl (cI, 800, .inl m_buffer)), (ad 0, .inr (10, oM ad m_undoCount m_thrown m_hasSnapshot a_m_fam m_rows m_lineLength m_formattedLength m_bufferLength m_limit m_next_87 m_beginsAt_87 m_token_87 m_error_87 m_errorAt_87 m_errorPosition m_nested m_codeCount)), (a_m_fam, .inl (cJ, 130, .inr (.inl m_fam_107)))] H := hP
      have hD : va_D A [((ad 24), .inl (cI, 800, .inl m_buffer)), (ad 0, .inr (10, oM ad m_undoCount m_thrown m_hasSnapshot a_m_fam m_rows m_lineLength m_formattedLength m_bufferLength m_limit m_next_87 m_beginsAt_87 m_token_87 m_error_87 m_errorAt_87 m_errorPosition m_nested m_codeCount)), (a_m_fam, .inl (cJ, 130, .inr (.inl m_fam_107)))] := hD
      refine lv_aload_n hx hb dX10_readPerson_110 rfl (lv_at hl 1 rfl) ?_
      refine lv_iload_n hx hb dX10_readPerson_111 rfl (lv_at hl 0 rfl) ?_
      refine lv_iconst (v := 3) hx hb dX10_readPerson_112 (by decide) ?_
      refine lv_aload_n hx hb dX10_readPerson_113 rfl (lv_at hl 1 rfl) ?_
      refine va_get (D := (dC, dI)) (ci := 10) (v := .int m_next_87) (C := RX10) (T := TX10) (N := 37) hx hb htg inX10 hown hE.1 hP 1 rfl rfl 26 (by decide) (htg _ tw1408) (fun _ h9 => h9) rfl dX10_readPerson_114 ?_
      refine lv_aload_n hx hb dX10_readPerson_117 rfl (lv_at hl 1 rfl) ?_
      refine va_get (D := (dC, dI)) (ci := 10) (v := .int m_beginsAt_87) (C := RX10) (T := TX10) (N := 37) hx hb htg inX10 hown hE.1 hP 1 rfl rfl 27 (by decide) (htg _ tw1409) (fun _ h9 => h9) rfl dX10_readPerson_118 ?_
      refine lv_isub hx hb dX10_readPerson_121 ?_
      refine lv_i2l hx hb dX10_readPerson_122 rfl ?_
      obtain ⟨m_fam_123, h9, hf⟩ := ob_s hf
      refine gcV (index := 339) S hE (c_X10_putPerson ad a_m_fam m_undoCount m_thrown m_hasSnapshot m_rows m_lineLength m_formattedLength m_bufferLength m_limit m_next_87 m_beginsAt_87 m_token_87 m_error_87 m_errorAt_87 m_errorPosition m_nested m_codeCount m_fam_107 r96 (3 : Int32) ((m_next_87 - m_beginsAt_87).toInt64) m_fam_123 h9) mX10_putPerson tw1869 ⟨Nat.le_of_ble_eq_true rfl, Nat.le_of_ble_eq_true rfl⟩ hP hD hS hA ⟨Nat.zero_le _, Nat.zero_le _⟩ 1 10 rfl rfl rfl (wr := [((ad 24), .inl (cI, 800, .inl m_buffer))]) [1, 2] [0] rfl rfl rfl rfl (by decide) (As := [.int r96, .int (3 : Int32), .long (m_next_87 - m_beginsAt_87).toInt64]) (rest := []) rfl hl.1 rfl (Nat.le_of_ble_eq_true rfl) dX10_readPerson_123 (fun H locs hP hD hS => ?_)
      refine W.eq (g2 := F0 m 126 ls []) rfl ?_
      have hP : va_P (dC, dI) vwCl [((ad 24), .inl (cI, 800, .inl m_buffer)), (ad 0, .inr (10, oM ad m_undoCount m_thrown m_hasSnapshot a_m_fam m_rows m_lineLength m_formattedLength m_bufferLength m_limit m_next_87 m_beginsAt_87 m_token_87 m_error_87 m_errorAt_87 m_errorPosition m_nested m_codeCount)), (a_m_fam, .inl (cJ, 130, .inr (.inl m_fam_123)))] H := hP
      have hD : va_D A [((ad 24), .inl (cI, 800, .inl m_buffer)), (ad 0, .inr (10, oM ad m_undoCount m_thrown m_hasSnapshot a_m_fam m_rows m_lineLength m_formattedLength m_bufferLength m_limit m_next_87 m_beginsAt_87 m_token_87 m_error_87 m_errorAt_87 m_errorPosition m_nested m_codeCount)), (a_m_fam, .inl (cJ, 130, .inr (.inl m_fam_123)))] := hD
      refine lv_aload_n hx hb dX10_readPerson_126 rfl (lv_at hl 1 rfl) ?_
      refine lv_iload_n hx hb dX10_readPerson_127 rfl (lv_at hl 0 rfl) ?_
      refine lv_iconst (v := 1) hx hb dX10_readPerson_128 (by decide) ?_
      refine lv_ldc2 (own := RX10) (v := -1) hx hb hown (htg _ tw1672) dX10_readPerson_129 ?_
      obtain ⟨m_fam_132, h9, hf⟩ := ob_s hf
      refine gcV (index := 339) S hE (c_X10_putPerson ad a_m_fam m_undoCount m_thrown m_hasSnapshot m_rows m_lineLength m_formattedLength m_bufferLength m_limit m_next_87 m_beginsAt_87 m_token_87 m_error_87 m_errorAt_87 m_errorPosition m_nested m_codeCount m_fam_123 r96 (1 : Int32) (-1 : Int64) m_fam_132 h9) mX10_putPerson tw1869 ⟨Nat.le_of_ble_eq_true rfl, Nat.le_of_ble_eq_true rfl⟩ hP hD hS hA ⟨Nat.zero_le _, Nat.zero_le _⟩ 1 10 rfl rfl rfl (wr := [((ad 24), .inl (cI, 800, .inl m_buffer))]) [1, 2] [0] rfl rfl rfl rfl (by decide) (As := [.int r96, .int (1 : Int32), .long (-1 : Int64)]) (rest := []) rfl hl.1 rfl (Nat.le_of_ble_eq_true rfl) dX10_readPerson_132 (fun H locs hP hD hS => ?_)
      refine W.eq (g2 := F0 m 135 ls []) rfl ?_
      have hP : va_P (dC, dI) vwCl [((ad 24), .inl (cI, 800, .inl m_buffer)), (ad 0, .inr (10, oM ad m_undoCount m_thrown m_hasSnapshot a_m_fam m_rows m_lineLength m_formattedLength m_bufferLength m_limit m_next_87 m_beginsAt_87 m_token_87 m_error_87 m_errorAt_87 m_errorPosition m_nested m_codeCount)), (a_m_fam, .inl (cJ, 130, .inr (.inl m_fam_132)))] H := hP
      have hD : va_D A [((ad 24), .inl (cI, 800, .inl m_buffer)), (ad 0, .inr (10, oM ad m_undoCount m_thrown m_hasSnapshot a_m_fam m_rows m_lineLength m_formattedLength m_bufferLength m_limit m_next_87 m_beginsAt_87 m_token_87 m_error_87 m_errorAt_87 m_errorPosition m_nested m_codeCount)), (a_m_fam, .inl (cJ, 130, .inr (.inl m_fam_132)))] := hD
      refine lv_aload_n hx hb dX10_readPerson_135 rfl (lv_at hl 1 rfl) ?_
      obtain ⟨⟨m_beginsAt_136, m_next_136, m_token_136⟩, h9, hf⟩ := ob_s hf
      have hf := uc3_e hf
      refine gcV (index := 419) S hE (c_X10_advance ad a_m_fam m_undoCount m_thrown m_hasSnapshot m_rows m_lineLength m_formattedLength m_bufferLength m_limit m_next_87 m_beginsAt_87 m_token_87 m_error_87 m_errorAt_87 m_errorPosition m_nested m_codeCount m_buffer m_beginsAt_136 m_next_136 m_token_136 h9) mX10_advance tw1976 ⟨Nat.le_of_ble_eq_true rfl, Nat.le_of_ble_eq_true rfl⟩ hP hD hS hA ⟨Nat.zero_le _, Nat.zero_le _⟩ 1 10 rfl rfl rfl (wr := [(a_m_fam, .inl (cJ, 130, .inr (.inl m_fam_132)))]) [1, 0] [2] rfl rfl rfl rfl (by decide) (As := []) (rest := []) rfl hl.1 rfl (Nat.le_of_ble_eq_true rfl) dX10_readPerson_136 (fun H locs hP hD hS => ?_)
      refine W.eq (g2 := F0 m 139 ls []) rfl ?_
      have hP : va_P (dC, dI) vwCl [(a_m_fam, .inl (cJ, 130, .inr (.inl m_fam_132))), (ad 0, .inr (10, oM ad m_undoCount m_thrown m_hasSnapshot a_m_fam m_rows m_lineLength m_formattedLength m_bufferLength m_limit m_next_136 m_beginsAt_136 m_token_136 m_error_87 m_errorAt_87 m_errorPosition m_nested m_codeCount)), ((ad 24), .inl (cI, 800, .inl m_buffer))] H := hP
      have hD : va_D A [(a_m_fam, .inl (cJ, 130, .inr (.inl m_fam_132))), (ad 0, .inr (10, oM ad m_undoCount m_thrown m_hasSnapshot a_m_fam m_rows m_lineLength m_formattedLength m_bufferLength m_limit m_next_136 m_beginsAt_136 m_token_136 m_error_87 m_errorAt_87 m_errorPosition m_nested m_codeCount)), ((ad 24), .inl (cI, 800, .inl m_buffer))] := hD
      refine lv_aload_n hx hb dX10_readPerson_139 rfl (lv_at hl 1 rfl) ?_
      refine lv_iload_n hx hb dX10_readPerson_140 rfl (lv_at hl 0 rfl) ?_
      refine lv_iconst (v := 0) hx hb dX10_readPerson_141 (by decide) ?_
      refine lv_aload_n hx hb dX10_readPerson_142 rfl (lv_at hl 1 rfl) ?_
      refine lv_iconst (v := 0) hx hb dX10_readPerson_143 (by decide) ?_
      refine lv_sipush (v := 2100) hx hb dX10_readPerson_144 (by decide) ?_
      obtain ⟨⟨r147, m_beginsAt_147, m_error_147, m_errorAt_147, m_next_147, m_token_147⟩, h9, hf⟩ := ob_s hf
      have hf := uc6_e hf
      refine gcV (index := 441) S hE (c_X10_readNumber ad a_m_fam m_undoCount m_thrown m_hasSnapshot m_rows m_lineLength m_formattedLength m_bufferLength m_limit m_next_136 m_beginsAt_136 m_token_136 m_error_87 m_errorAt_87 m_errorPosition m_nested m_codeCount m_buffer (0 : Int32) (2100 : Int32) r147 m_beginsAt_147 m_error_147 m_errorAt_147 m_next_147 m_token_147 h9) mX10_readNumber tw1989 ⟨Nat.le_of_ble_eq_true rfl, Nat.le_of_ble_eq_true rfl⟩ hP hD hS hA ⟨Nat.zero_le _, Nat.zero_le _⟩ 1 10 rfl rfl rfl (wr := [(a_m_fam, .inl (cJ, 130, .inr (.inl m_fam_132)))]) [1, 2] [0] rfl rfl rfl rfl (by decide) (As := [.int (0 : Int32), .int (2100 : Int32)]) (rest := [.int (0 : Int32), .int r96, .ref (ad 0)]) rfl hl.1 rfl (Nat.le_of_ble_eq_true rfl) dX10_readPerson_147 (fun H locs hP hD hS => ?_)
      refine W.eq (g2 := F0 m 150 ls [.int r147, .int (0 : Int32), .int r96, .ref (ad 0)]) rfl ?_
      have hP : va_P (dC, dI) vwCl [(a_m_fam, .inl (cJ, 130, .inr (.inl m_fam_132))), (ad 0, .inr (10, oM ad m_undoCount m_thrown m_hasSnapshot a_m_fam m_rows m_lineLength m_formattedLength m_bufferLength m_limit m_next_147 m_beginsAt_147 m_token_147 m_error_147 m_errorAt_147 m_errorPosition m_nested m_codeCount)), ((ad 24), .inl (cI, 800, .inl m_buffer))] H := hP
      have hD : va_D A [(a_m_fam, .inl (cJ, 130, .inr (.inl m_fam_132))), (ad 0, .inr (10, oM ad m_undoCount m_thrown m_hasSnapshot a_m_fam m_rows m_lineLength m_formattedLength m_bufferLength m_limit m_next_147 m_beginsAt_147 m_token_147 m_error_147 m_errorAt_147 m_errorPosition m_nested m_codeCount)), ((ad 24), .inl (cI, 800, .inl m_buffer))] := hD
      refine lv_i2l hx hb dX10_readPerson_150 rfl ?_
      obtain ⟨m_fam_151, h9, hf⟩ := ob_s hf
      refine gcV (index := 339) S hE (c_X10_putPerson ad a_m_fam m_undoCount m_thrown m_hasSnapshot m_rows m_lineLength m_formattedLength m_bufferLength m_limit m_next_147 m_beginsAt_147 m_token_147 m_error_147 m_errorAt_147 m_errorPosition m_nested m_codeCount m_fam_132 r96 (0 : Int32) r147.toInt64 m_fam_151 h9) mX10_putPerson tw1869 ⟨Nat.le_of_ble_eq_true rfl, Nat.le_of_ble_eq_true rfl⟩ hP hD hS hA ⟨Nat.zero_le _, Nat.zero_le _⟩ 1 10 rfl rfl rfl (wr := [((ad 24), .inl (cI, 800, .inl m_buffer))]) [1, 0] [2] rfl rfl rfl rfl (by decide) (As := [.int r96, .int (0 : Int32), .long r147.toInt64]) (rest := []) rfl hl.1 rfl (Nat.le_of_ble_eq_true rfl) dX10_readPerson_151 (fun H locs hP hD hS => ?_)
      refine W.eq (g2 := F0 m 154 ls []) rfl ?_
      have hP : va_P (dC, dI) vwCl [((ad 24), .inl (cI, 800, .inl m_buffer)), (ad 0, .inr (10, oM ad m_undoCount m_thrown m_hasSnapshot a_m_fam m_rows m_lineLength m_formattedLength m_bufferLength m_limit m_next_147 m_beginsAt_147 m_token_147 m_error_147 m_errorAt_147 m_errorPosition m_nested m_codeCount)), (a_m_fam, .inl (cJ, 130, .inr (.inl m_fam_151)))] H := hP
      have hD : va_D A [((ad 24), .inl (cI, 800, .inl m_buffer)), (ad 0, .inr (10, oM ad m_undoCount m_thrown m_hasSnapshot a_m_fam m_rows m_lineLength m_formattedLength m_bufferLength m_limit m_next_147 m_beginsAt_147 m_token_147 m_error_147 m_errorAt_147 m_errorPosition m_nested m_codeCount)), (a_m_fam, .inl (cJ, 130, .inr (.inl m_fam_151)))] := hD
      refine lv_aload_n hx hb dX10_readPerson_154 rfl (lv_at hl 1 rfl) ?_
      refine va_get (D := (dC, dI)) (ci := 10) (v := .ref a_m_fam) (C := RX10) (T := TX10) (N := 37) hx hb htg inX10 hown hE.1 hP 1 rfl rfl 7 (by decide) (htg _ tw1389) (fun _ h9 => h9) rfl dX10_readPerson_155 ?_
      refine lv_iconst (v := 0) hx hb dX10_readPerson_158 (by decide) ?_
      refine lv_dup2_11 hx hb dX10_readPerson_159 rfl rfl ?_
      obtain ⟨h9, hf⟩ := gd_s hf
      refine va_lald hx hb hE.1 hP 2 1 rfl rfl h9 dX10_readPerson_160 ?_
      refine lv_lconst (v := 1) hx hb dX10_readPerson_161 (by decide) ?_
      refine lv_ladd hx hb dX10_readPerson_162 ?_
      obtain ⟨h9, hf⟩ := gd_s hf
      refine va_last hx hb hE.1 hP hD hS 2 1 rfl rfl h9 dX10_readPerson_163 (fun H locs hP hD hS => ?_)
      obtain ⟨g163, h9⟩ : ∃ z, z = (vp_updL m_fam_151 (0 : Int32).toNatClampNeg ((m_fam_151 (0 : Int32).toNatClampNeg) + (1 : Int64))) := ⟨_, rfl⟩
      have hf := lb_e h9 hf
      have hP : va_P (dC, dI) vwCl [((ad 24), .inl (cI, 800, .inl m_buffer)), (ad 0, .inr (10, oM ad m_undoCount m_thrown m_hasSnapshot a_m_fam m_rows m_lineLength m_formattedLength m_bufferLength m_limit m_next_147 m_beginsAt_147 m_token_147 m_error_147 m_errorAt_147 m_errorPosition m_nested m_codeCount)), (a_m_fam, .inl (cJ, 130, .inr (.inl g163)))] H := by rw [h9]; exact hP
      have hD : va_D A [((ad 24), .inl (cI, 800, .inl m_buffer)), (ad 0, .inr (10, oM ad m_undoCount m_thrown m_hasSnapshot a_m_fam m_rows m_lineLength m_formattedLength m_bufferLength m_limit m_next_147 m_beginsAt_147 m_token_147 m_error_147 m_errorAt_147 m_errorPosition m_nested m_codeCount)), (a_m_fam, .inl (cJ, 130, .inr (.inl g163)))] := by rw [h9]; exact hD
      cases hf
      exact g_vret S hr hlocks (hP.sub [1, 0, 2] rfl) (hD.sub [1, 0, 2] (by decide) rfl) hS dX10_readPerson_164
    · have hf := itf h9 hf
      cases hf
      exact g_vret S hr hlocks hP hD hS dX10_readPerson_94
  have J62 : ∀ (m_next_62 : Int32) (m_beginsAt_62 : Int32) (m_token_62 : Int32) (m_error_62 : Int32) (m_errorAt_62 : Int32) (H : Heap) (locs : List Loc) (ls : Array Slot), p10_readPerson_J62 m_buffer m_fam m_limit m_next_62 m_beginsAt_62 m_token_62 m_error_62 m_errorAt_62 = some (m_beginsAt_9, m_error_9, m_errorAt_9, m_fam_9, m_next_9, m_token_9) → va_P (dC, dI) vwCl [(ad 0, .inr (10, oM ad m_undoCount m_thrown m_hasSnapshot a_m_fam m_rows m_lineLength m_formattedLength m_bufferLength m_limit m_next_62 m_beginsAt_62 m_token_62 m_error_62 m_errorAt_62 m_errorPosition m_nested m_codeCount)), ((ad 24), .inl (cI, 800, .inl m_buffer)), (a_m_fam, .inl (cJ, 130, .inr (.inl m_fam)))] H → va_D A [(ad 0, .inr (10, oM ad m_undoCount m_thrown m_hasSnapshot a_m_fam m_rows m_lineLength m_formattedLength m_bufferLength m_limit m_next_62 m_beginsAt_62 m_token_62 m_error_62 m_errorAt_62 m_errorPosition m_nested m_codeCount)), ((ad 24), .inl (cI, 800, .inl m_buffer)), (a_m_fam, .inl (cJ, 130, .inr (.inl m_fam)))] → va_S A s.heap H locs → lv_has ls 2 [(0, .ref (ad 0))] → W p l e ({ frames := 5, cells := 0, slots := 0, locals := 105 }) s m ([.ref (ad 0)] : List Value).toArray below meth c H locs 0 0 (MQ below (gQ dC dI none A [(ad 0, .inr (10, oM ad m_undoCount m_thrown m_hasSnapshot a_m_fam m_rows m_lineLength m_formattedLength m_bufferLength m_limit m_next_9 m_beginsAt_9 m_token_9 m_error_9 m_errorAt_9 m_errorPosition m_nested m_codeCount)), ((ad 24), .inl (cI, 800, .inl m_buffer)), (a_m_fam, .inl (cJ, 130, .inr (.inl m_fam_9)))]) ([.ref (ad 0)] : List Value).toArray s 0 0 A) (F0 m 62 ls []) := by
    intro m_next_62 m_beginsAt_62 m_token_62 m_error_62 m_errorAt_62 H locs ls hf hP hD hS hl
    rw [p10_readPerson_J62] at hf
    refine lv_aload_n hx hb dX10_readPerson_62 rfl (lv_at hl 0 rfl) ?_
    refine lv_aload_n hx hb dX10_readPerson_63 rfl (lv_at hl 0 rfl) ?_
    refine va_get (D := (dC, dI)) (ci := 10) (v := .int m_error_62) (C := RX10) (T := TX10) (N := 37) hx hb htg inX10 hown hE.1 hP 0 rfl rfl 29 (by decide) (htg _ tw1411) (fun _ h9 => h9) rfl dX10_readPerson_64 ?_
    refine lv_if_ne (tgt := 78) hx hb dX10_readPerson_67 (by decide) (fun h9 => ?_) (fun h9 => ?_)
    · have hf := itf h9 hf
      refine lv_iconst (v := 1) hx hb dX10_readPerson_78 (by decide) ?_
      refine lv_goto (tgt := 83) hx hb dX10_readPerson_79 (by decide) ?_
      refine lv_iconst (v := 4) hx hb dX10_readPerson_83 (by decide) ?_
      obtain ⟨m_error_84, m_errorAt_84, h9⟩ : ∃ m_error_84 m_errorAt_84, p10_check m_beginsAt_62 m_error_62 m_errorAt_62 true (4 : Int32) = (m_error_84, m_errorAt_84) := ⟨_, _, rfl⟩
      have hf := uc2_e (lb_e h9.symm hf)
      refine gcV (index := 415) S hE (c_X10_check ad a_m_fam m_undoCount m_thrown m_hasSnapshot m_rows m_lineLength m_formattedLength m_bufferLength m_limit m_next_62 m_beginsAt_62 m_token_62 m_error_62 m_errorAt_62 m_errorPosition m_nested m_codeCount true (4 : Int32) m_error_84 m_errorAt_84 h9) mX10_check tw1968 ⟨Nat.le_of_ble_eq_true rfl, Nat.le_of_ble_eq_true rfl⟩ hP hD hS hA ⟨Nat.zero_le _, Nat.zero_le _⟩ 0 10 rfl rfl rfl (wr := [((ad 24), .inl (cI, 800, .inl m_buffer)), (a_m_fam, .inl (cJ, 130, .inr (.inl m_fam)))]) [0] [1, 2] rfl rfl rfl rfl (by decide) (As := [.int (bI true), .int (4 : Int32)]) (rest := []) rfl hl.1 rfl (Nat.le_of_ble_eq_true rfl) dX10_readPerson_84 (fun H locs hP hD hS => ?_)
      refine W.eq (g2 := F0 m 87 ls []) rfl ?_
      have hP : va_P (dC, dI) vwCl [((ad 24), .inl (cI, 800, .inl m_buffer)), (a_m_fam, .inl (cJ, 130, .inr (.inl m_fam))), (ad 0, .inr (10, oM ad m_undoCount m_thrown m_hasSnapshot a_m_fam m_rows m_lineLength m_formattedLength m_bufferLength m_limit m_next_62 m_beginsAt_62 m_token_62 m_error_84 m_errorAt_84 m_errorPosition m_nested m_codeCount))] H := hP
      have hD : va_D A [((ad 24), .inl (cI, 800, .inl m_buffer)), (a_m_fam, .inl (cJ, 130, .inr (.inl m_fam))), (ad 0, .inr (10, oM ad m_undoCount m_thrown m_hasSnapshot a_m_fam m_rows m_lineLength m_formattedLength m_bufferLength m_limit m_next_62 m_beginsAt_62 m_token_62 m_error_84 m_errorAt_84 m_errorPosition m_nested m_codeCount))] := hD
      exact J87 m_next_62 m_beginsAt_62 m_token_62 m_error_84 m_errorAt_84 H locs ls hf (hP.sub [2, 0, 1] rfl) (hD.sub [2, 0, 1] (by decide) rfl) hS (lv_sub hl [0] rfl)
    · have hf := itt h9 hf
      refine lv_aload_n hx hb dX10_readPerson_70 rfl (lv_at hl 0 rfl) ?_
      obtain ⟨r71, h9, hf⟩ := ob_s hf
      refine gcV (index := 438) S hE (c_X10_personHere ad a_m_fam m_undoCount m_thrown m_hasSnapshot m_rows m_lineLength m_formattedLength m_bufferLength m_limit m_next_62 m_beginsAt_62 m_token_62 m_error_62 m_errorAt_62 m_errorPosition m_nested m_codeCount m_buffer m_fam r71 h9) mX10_personHere tw1980 ⟨Nat.le_of_ble_eq_true rfl, Nat.le_of_ble_eq_true rfl⟩ hP hD hS hA ⟨Nat.zero_le _, Nat.zero_le _⟩ 0 10 rfl rfl rfl (wr := []) [0, 1, 2] [] rfl rfl rfl rfl (by decide) (As := []) (rest := [.ref (ad 0)]) rfl hl.1 rfl (Nat.le_of_ble_eq_true rfl) dX10_readPerson_71 (fun H locs hP hD hS => ?_)
      refine W.eq (g2 := F0 m 74 ls [.int r71, .ref (ad 0)]) rfl ?_
      have hP : va_P (dC, dI) vwCl [(ad 0, .inr (10, oM ad m_undoCount m_thrown m_hasSnapshot a_m_fam m_rows m_lineLength m_formattedLength m_bufferLength m_limit m_next_62 m_beginsAt_62 m_token_62 m_error_62 m_errorAt_62 m_errorPosition m_nested m_codeCount)), ((ad 24), .inl (cI, 800, .inl m_buffer)), (a_m_fam, .inl (cJ, 130, .inr (.inl m_fam)))] H := hP
      have hD : va_D A [(ad 0, .inr (10, oM ad m_undoCount m_thrown m_hasSnapshot a_m_fam m_rows m_lineLength m_formattedLength m_bufferLength m_limit m_next_62 m_beginsAt_62 m_token_62 m_error_62 m_errorAt_62 m_errorPosition m_nested m_codeCount)), ((ad 24), .inl (cI, 800, .inl m_buffer)), (a_m_fam, .inl (cJ, 130, .inr (.inl m_fam)))] := hD
      refine lv_iconst (v := -1) hx hb dX10_readPerson_74 (by decide) ?_
      refine lv_icmp_ne (tgt := 82) hx hb dX10_readPerson_75 (by decide) (fun h9 => ?_) (fun h9 => ?_)
      · have hf := itf h9 hf
        refine lv_iconst (v := 0) hx hb dX10_readPerson_82 (by decide) ?_
        refine lv_iconst (v := 4) hx hb dX10_readPerson_83 (by decide) ?_
        obtain ⟨m_error_84, m_errorAt_84, h9⟩ : ∃ m_error_84 m_errorAt_84, p10_check m_beginsAt_62 m_error_62 m_errorAt_62 false (4 : Int32) = (m_error_84, m_errorAt_84) := ⟨_, _, rfl⟩
        have hf := uc2_e (lb_e h9.symm hf)
        refine gcV (index := 415) S hE (c_X10_check ad a_m_fam m_undoCount m_thrown m_hasSnapshot m_rows m_lineLength m_formattedLength m_bufferLength m_limit m_next_62 m_beginsAt_62 m_token_62 m_error_62 m_errorAt_62 m_errorPosition m_nested m_codeCount false (4 : Int32) m_error_84 m_errorAt_84 h9) mX10_check tw1968 ⟨Nat.le_of_ble_eq_true rfl, Nat.le_of_ble_eq_true rfl⟩ hP hD hS hA ⟨Nat.zero_le _, Nat.zero_le _⟩ 0 10 rfl rfl rfl (wr := [((ad 24), .inl (cI, 800, .inl m_buffer)), (a_m_fam, .inl (cJ, 130, .inr (.inl m_fam)))]) [0] [1, 2] rfl rfl rfl rfl (by decide) (As := [.int (bI false), .int (4 : Int32)]) (rest := []) rfl hl.1 rfl (Nat.le_of_ble_eq_true rfl) dX10_readPerson_84 (fun H locs hP hD hS => ?_)
        refine W.eq (g2 := F0 m 87 ls []) rfl ?_
        have hP : va_P (dC, dI) vwCl [((ad 24), .inl (cI, 800, .inl m_buffer)), (a_m_fam, .inl (cJ, 130, .inr (.inl m_fam))), (ad 0, .inr (10, oM ad m_undoCount m_thrown m_hasSnapshot a_m_fam m_rows m_lineLength m_formattedLength m_bufferLength m_limit m_next_62 m_beginsAt_62 m_token_62 m_error_84 m_errorAt_84 m_errorPosition m_nested m_codeCount))] H := hP
        have hD : va_D A [((ad 24), .inl (cI, 800, .inl m_buffer)), (a_m_fam, .inl (cJ, 130, .inr (.inl m_fam))), (ad 0, .inr (10, oM ad m_undoCount m_thrown m_hasSnapshot a_m_fam m_rows m_lineLength m_formattedLength m_bufferLength m_limit m_next_62 m_beginsAt_62 m_token_62 m_error_84 m_errorAt_84 m_errorPosition m_nested m_codeCount))] := hD
        exact J87 m_next_62 m_beginsAt_62 m_token_62 m_error_84 m_errorAt_84 H locs ls hf (hP.sub [2, 0, 1] rfl) (hD.sub [2, 0, 1] (by decide) rfl) hS (lv_sub hl [0] rfl)
      · have hf := itt h9 hf
        refine lv_iconst (v := 1) hx hb dX10_readPerson_78 (by decide) ?_
        refine lv_goto (tgt := 83) hx hb dX10_readPerson_79 (by decide) ?_
        refine lv_iconst (v := 4) hx hb dX10_readPerson_83 (by decide) ?_
        obtain ⟨m_error_84, m_errorAt_84, h9⟩ : ∃ m_error_84 m_errorAt_84, p10_check m_beginsAt_62 m_error_62 m_errorAt_62 true (4 : Int32) = (m_error_84, m_errorAt_84) := ⟨_, _, rfl⟩
        have hf := uc2_e (lb_e h9.symm hf)
        refine gcV (index := 415) S hE (c_X10_check ad a_m_fam m_undoCount m_thrown m_hasSnapshot m_rows m_lineLength m_formattedLength m_bufferLength m_limit m_next_62 m_beginsAt_62 m_token_62 m_error_62 m_errorAt_62 m_errorPosition m_nested m_codeCount true (4 : Int32) m_error_84 m_errorAt_84 h9) mX10_check tw1968 ⟨Nat.le_of_ble_eq_true rfl, Nat.le_of_ble_eq_true rfl⟩ hP hD hS hA ⟨Nat.zero_le _, Nat.zero_le _⟩ 0 10 rfl rfl rfl (wr := [((ad 24), .inl (cI, 800, .inl m_buffer)), (a_m_fam, .inl (cJ, 130, .inr (.inl m_fam)))]) [0] [1, 2] rfl rfl rfl rfl (by decide) (As := [.int (bI true), .int (4 : Int32)]) (rest := []) rfl hl.1 rfl (Nat.le_of_ble_eq_true rfl) dX10_readPerson_84 (fun H locs hP hD hS => ?_)
        refine W.eq (g2 := F0 m 87 ls []) rfl ?_
        have hP : va_P (dC, dI) vwCl [((ad 24), .inl (cI, 800, .inl m_buffer)), (a_m_fam, .inl (cJ, 130, .inr (.inl m_fam))), (ad 0, .inr (10, oM ad m_undoCount m_thrown m_hasSnapshot a_m_fam m_rows m_lineLength m_formattedLength m_bufferLength m_limit m_next_62 m_beginsAt_62 m_token_62 m_error_84 m_errorAt_84 m_errorPosition m_nested m_codeCount))] H := hP
        have hD : va_D A [((ad 24), .inl (cI, 800, .inl m_buffer)), (a_m_fam, .inl (cJ, 130, .inr (.inl m_fam))), (ad 0, .inr (10, oM ad m_undoCount m_thrown m_hasSnapshot a_m_fam m_rows m_lineLength m_formattedLength m_bufferLength m_limit m_next_62 m_beginsAt_62 m_token_62 m_error_84 m_errorAt_84 m_errorPosition m_nested m_codeCount))] := hD
        exact J87 m_next_62 m_beginsAt_62 m_token_62 m_error_84 m_errorAt_84 H locs ls hf (hP.sub [2, 0, 1] rfl) (hD.sub [2, 0, 1] (by decide) rfl) hS (lv_sub hl [0] rfl)
  have J19 : ∀ (m_error_19 : Int32) (m_errorAt_19 : Int32) (H : Heap) (locs : List Loc) (ls : Array Slot), p10_readPerson_J19 m_beginsAt m_buffer m_fam m_limit m_next m_token m_error_19 m_errorAt_19 = some (m_beginsAt_9, m_error_9, m_errorAt_9, m_fam_9, m_next_9, m_token_9) → va_P (dC, dI) vwCl [(ad 0, .inr (10, oM ad m_undoCount m_thrown m_hasSnapshot a_m_fam m_rows m_lineLength m_formattedLength m_bufferLength m_limit m_next m_beginsAt m_token m_error_19 m_errorAt_19 m_errorPosition m_nested m_codeCount)), ((ad 24), .inl (cI, 800, .inl m_buffer)), (a_m_fam, .inl (cJ, 130, .inr (.inl m_fam)))] H → va_D A [(ad 0, .inr (10, oM ad m_undoCount m_thrown m_hasSnapshot a_m_fam m_rows m_lineLength m_formattedLength m_bufferLength m_limit m_next m_beginsAt m_token m_error_19 m_errorAt_19 m_errorPosition m_nested m_codeCount)), ((ad 24), .inl (cI, 800, .inl m_buffer)), (a_m_fam, .inl (cJ, 130, .inr (.inl m_fam)))] → va_S A s.heap H locs → lv_has ls 2 [(0, .ref (ad 0))] → W p l e ({ frames := 5, cells := 0, slots := 0, locals := 105 }) s m ([.ref (ad 0)] : List Value).toArray below meth c H locs 0 0 (MQ below (gQ dC dI none A [(ad 0, .inr (10, oM ad m_undoCount m_thrown m_hasSnapshot a_m_fam m_rows m_lineLength m_formattedLength m_bufferLength m_limit m_next_9 m_beginsAt_9 m_token_9 m_error_9 m_errorAt_9 m_errorPosition m_nested m_codeCount)), ((ad 24), .inl (cI, 800, .inl m_buffer)), (a_m_fam, .inl (cJ, 130, .inr (.inl m_fam_9)))]) ([.ref (ad 0)] : List Value).toArray s 0 0 A) (F0 m 19 ls []) := by
    intro m_error_19 m_errorAt_19 H locs ls hf hP hD hS hl
    rw [p10_readPerson_J19] at hf
    refine lv_aload_n hx hb dX10_readPerson_19 rfl (lv_at hl 0 rfl) ?_
    obtain ⟨⟨m_beginsAt_20, m_next_20, m_token_20⟩, h9, hf⟩ := ob_s hf
    have hf := uc3_e hf
    refine gcV (index := 419) S hE (c_X10_advance ad a_m_fam m_undoCount m_thrown m_hasSnapshot m_rows m_lineLength m_formattedLength m_bufferLength m_limit m_next m_beginsAt m_token m_error_19 m_errorAt_19 m_errorPosition m_nested m_codeCount m_buffer m_beginsAt_20 m_next_20 m_token_20 h9) mX10_advance tw1976 ⟨Nat.le_of_ble_eq_true rfl, Nat.le_of_ble_eq_true rfl⟩ hP hD hS hA ⟨Nat.zero_le _, Nat.zero_le _⟩ 0 10 rfl rfl rfl (wr := [(a_m_fam, .inl (cJ, 130, .inr (.inl m_fam)))]) [0, 1] [2] rfl rfl rfl rfl (by decide) (As := []) (rest := []) rfl hl.1 rfl (Nat.le_of_ble_eq_true rfl) dX10_readPerson_20 (fun H locs hP hD hS => ?_)
    refine W.eq (g2 := F0 m 23 ls []) rfl ?_
    have hP : va_P (dC, dI) vwCl [(a_m_fam, .inl (cJ, 130, .inr (.inl m_fam))), (ad 0, .inr (10, oM ad m_undoCount m_thrown m_hasSnapshot a_m_fam m_rows m_lineLength m_formattedLength m_bufferLength m_limit m_next_20 m_beginsAt_20 m_token_20 m_error_19 m_errorAt_19 m_errorPosition m_nested m_codeCount)), ((ad 24), .inl (cI, 800, .inl m_buffer))] H := hP
    have hD : va_D A [(a_m_fam, .inl (cJ, 130, .inr (.inl m_fam))), (ad 0, .inr (10, oM ad m_undoCount m_thrown m_hasSnapshot a_m_fam m_rows m_lineLength m_formattedLength m_bufferLength m_limit m_next_20 m_beginsAt_20 m_token_20 m_error_19 m_errorAt_19 m_errorPosition m_nested m_codeCount)), ((ad 24), .inl (cI, 800, .inl m_buffer))] := hD
    refine lv_aload_n hx hb dX10_readPerson_23 rfl (lv_at hl 0 rfl) ?_
    refine lv_aload_n hx hb dX10_readPerson_24 rfl (lv_at hl 0 rfl) ?_
    refine va_get (D := (dC, dI)) (ci := 10) (v := .int m_error_19) (C := RX10) (T := TX10) (N := 37) hx hb htg inX10 hown hE.1 hP 1 rfl rfl 29 (by decide) (htg _ tw1411) (fun _ h9 => h9) rfl dX10_readPerson_25 ?_
    refine lv_if_ne (tgt := 53) hx hb dX10_readPerson_28 (by decide) (fun h9 => ?_) (fun h9 => ?_)
    · have hf := itf h9 hf
      refine lv_iconst (v := 1) hx hb dX10_readPerson_53 (by decide) ?_
      refine lv_goto (tgt := 58) hx hb dX10_readPerson_54 (by decide) ?_
      refine lv_iconst (v := 1) hx hb dX10_readPerson_58 (by decide) ?_
      obtain ⟨m_error_59, m_errorAt_59, h9⟩ : ∃ m_error_59 m_errorAt_59, p10_check m_beginsAt_20 m_error_19 m_errorAt_19 true (1 : Int32) = (m_error_59, m_errorAt_59) := ⟨_, _, rfl⟩
      have hf := uc2_e (lb_e h9.symm hf)
      refine gcV (index := 415) S hE (c_X10_check ad a_m_fam m_undoCount m_thrown m_hasSnapshot m_rows m_lineLength m_formattedLength m_bufferLength m_limit m_next_20 m_beginsAt_20 m_token_20 m_error_19 m_errorAt_19 m_errorPosition m_nested m_codeCount true (1 : Int32) m_error_59 m_errorAt_59 h9) mX10_check tw1968 ⟨Nat.le_of_ble_eq_true rfl, Nat.le_of_ble_eq_true rfl⟩ hP hD hS hA ⟨Nat.zero_le _, Nat.zero_le _⟩ 1 10 rfl rfl rfl (wr := [(a_m_fam, .inl (cJ, 130, .inr (.inl m_fam))), ((ad 24), .inl (cI, 800, .inl m_buffer))]) [1] [0, 2] rfl rfl rfl rfl (by decide) (As := [.int (bI true), .int (1 : Int32)]) (rest := []) rfl hl.1 rfl (Nat.le_of_ble_eq_true rfl) dX10_readPerson_59 (fun H locs hP hD hS => ?_)
      refine W.eq (g2 := F0 m 62 ls []) rfl ?_
      have hP : va_P (dC, dI) vwCl [(a_m_fam, .inl (cJ, 130, .inr (.inl m_fam))), ((ad 24), .inl (cI, 800, .inl m_buffer)), (ad 0, .inr (10, oM ad m_undoCount m_thrown m_hasSnapshot a_m_fam m_rows m_lineLength m_formattedLength m_bufferLength m_limit m_next_20 m_beginsAt_20 m_token_20 m_error_59 m_errorAt_59 m_errorPosition m_nested m_codeCount))] H := hP
      have hD : va_D A [(a_m_fam, .inl (cJ, 130, .inr (.inl m_fam))), ((ad 24), .inl (cI, 800, .inl m_buffer)), (ad 0, .inr (10, oM ad m_undoCount m_thrown m_hasSnapshot a_m_fam m_rows m_lineLength m_formattedLength m_bufferLength m_limit m_next_20 m_beginsAt_20 m_token_20 m_error_59 m_errorAt_59 m_errorPosition m_nested m_codeCount))] := hD
      exact J62 m_next_20 m_beginsAt_20 m_token_20 m_error_59 m_errorAt_59 H locs ls hf (hP.sub [2, 1, 0] rfl) (hD.sub [2, 1, 0] (by decide) rfl) hS (lv_sub hl [0] rfl)
    · have hf := itt h9 hf
      refine lv_aload_n hx hb dX10_readPerson_31 rfl (lv_at hl 0 rfl) ?_
      refine va_get (D := (dC, dI)) (ci := 10) (v := .int m_token_20) (C := RX10) (T := TX10) (N := 37) hx hb htg inX10 hown hE.1 hP 1 rfl rfl 28 (by decide) (htg _ tw1410) (fun _ h9 => h9) rfl dX10_readPerson_32 ?_
      refine lv_iconst (v := 1) hx hb dX10_readPerson_35 (by decide) ?_
      refine lv_icmp_ne (tgt := 57) hx hb dX10_readPerson_36 (by decide) (fun h9 => ?_) (fun h9 => ?_)
      · have hf := itf h9 hf
        refine lv_iconst (v := 0) hx hb dX10_readPerson_57 (by decide) ?_
        refine lv_iconst (v := 1) hx hb dX10_readPerson_58 (by decide) ?_
        obtain ⟨m_error_59, m_errorAt_59, h9⟩ : ∃ m_error_59 m_errorAt_59, p10_check m_beginsAt_20 m_error_19 m_errorAt_19 false (1 : Int32) = (m_error_59, m_errorAt_59) := ⟨_, _, rfl⟩
        have hf := uc2_e (lb_e h9.symm hf)
        refine gcV (index := 415) S hE (c_X10_check ad a_m_fam m_undoCount m_thrown m_hasSnapshot m_rows m_lineLength m_formattedLength m_bufferLength m_limit m_next_20 m_beginsAt_20 m_token_20 m_error_19 m_errorAt_19 m_errorPosition m_nested m_codeCount false (1 : Int32) m_error_59 m_errorAt_59 h9) mX10_check tw1968 ⟨Nat.le_of_ble_eq_true rfl, Nat.le_of_ble_eq_true rfl⟩ hP hD hS hA ⟨Nat.zero_le _, Nat.zero_le _⟩ 1 10 rfl rfl rfl (wr := [(a_m_fam, .inl (cJ, 130, .inr (.inl m_fam))), ((ad 24), .inl (cI, 800, .inl m_buffer))]) [1] [0, 2] rfl rfl rfl rfl (by decide) (As := [.int (bI false), .int (1 : Int32)]) (rest := []) rfl hl.1 rfl (Nat.le_of_ble_eq_true rfl) dX10_readPerson_59 (fun H locs hP hD hS => ?_)
        refine W.eq (g2 := F0 m 62 ls []) rfl ?_
        have hP : va_P (dC, dI) vwCl [(a_m_fam, .inl (cJ, 130, .inr (.inl m_fam))), ((ad 24), .inl (cI, 800, .inl m_buffer)), (ad 0, .inr (10, oM ad m_undoCount m_thrown m_hasSnapshot a_m_fam m_rows m_lineLength m_formattedLength m_bufferLength m_limit m_next_20 m_beginsAt_20 m_token_20 m_error_59 m_errorAt_59 m_errorPosition m_nested m_codeCount))] H := hP
        have hD : va_D A [(a_m_fam, .inl (cJ, 130, .inr (.inl m_fam))), ((ad 24), .inl (cI, 800, .inl m_buffer)), (ad 0, .inr (10, oM ad m_undoCount m_thrown m_hasSnapshot a_m_fam m_rows m_lineLength m_formattedLength m_bufferLength m_limit m_next_20 m_beginsAt_20 m_token_20 m_error_59 m_errorAt_59 m_errorPosition m_nested m_codeCount))] := hD
        exact J62 m_next_20 m_beginsAt_20 m_token_20 m_error_59 m_errorAt_59 H locs ls hf (hP.sub [2, 1, 0] rfl) (hD.sub [2, 1, 0] (by decide) rfl) hS (lv_sub hl [0] rfl)
      · have hf := itt h9 hf
        refine lv_aload_n hx hb dX10_readPerson_39 rfl (lv_at hl 0 rfl) ?_
        refine va_get (D := (dC, dI)) (ci := 10) (v := .int m_next_20) (C := RX10) (T := TX10) (N := 37) hx hb htg inX10 hown hE.1 hP 1 rfl rfl 26 (by decide) (htg _ tw1408) (fun _ h9 => h9) rfl dX10_readPerson_40 ?_
        refine lv_aload_n hx hb dX10_readPerson_43 rfl (lv_at hl 0 rfl) ?_
        refine va_get (D := (dC, dI)) (ci := 10) (v := .int m_beginsAt_20) (C := RX10) (T := TX10) (N := 37) hx hb htg inX10 hown hE.1 hP 1 rfl rfl 27 (by decide) (htg _ tw1409) (fun _ h9 => h9) rfl dX10_readPerson_44 ?_
        refine lv_isub hx hb dX10_readPerson_47 ?_
        refine lv_bipush (v := 8) hx hb dX10_readPerson_48 (by decide) ?_
        refine lv_icmp_gt (tgt := 57) hx hb dX10_readPerson_50 (by decide) (fun h9 => ?_) (fun h9 => ?_)
        · have hf := itt h9 hf
          refine lv_iconst (v := 0) hx hb dX10_readPerson_57 (by decide) ?_
          refine lv_iconst (v := 1) hx hb dX10_readPerson_58 (by decide) ?_
          obtain ⟨m_error_59, m_errorAt_59, h9⟩ : ∃ m_error_59 m_errorAt_59, p10_check m_beginsAt_20 m_error_19 m_errorAt_19 false (1 : Int32) = (m_error_59, m_errorAt_59) := ⟨_, _, rfl⟩
          have hf := uc2_e (lb_e h9.symm hf)
          refine gcV (index := 415) S hE (c_X10_check ad a_m_fam m_undoCount m_thrown m_hasSnapshot m_rows m_lineLength m_formattedLength m_bufferLength m_limit m_next_20 m_beginsAt_20 m_token_20 m_error_19 m_errorAt_19 m_errorPosition m_nested m_codeCount false (1 : Int32) m_error_59 m_errorAt_59 h9) mX10_check tw1968 ⟨Nat.le_of_ble_eq_true rfl, Nat.le_of_ble_eq_true rfl⟩ hP hD hS hA ⟨Nat.zero_le _, Nat.zero_le _⟩ 1 10 rfl rfl rfl (wr := [(a_m_fam, .inl (cJ, 130, .inr (.inl m_fam))), ((ad 24), .inl (cI, 800, .inl m_buffer))]) [1] [0, 2] rfl rfl rfl rfl (by decide) (As := [.int (bI false), .int (1 : Int32)]) (rest := []) rfl hl.1 rfl (Nat.le_of_ble_eq_true rfl) dX10_readPerson_59 (fun H locs hP hD hS => ?_)
          refine W.eq (g2 := F0 m 62 ls []) rfl ?_
          have hP : va_P (dC, dI) vwCl [(a_m_fam, .inl (cJ, 130, .inr (.inl m_fam))), ((ad 24), .inl (cI, 800, .inl m_buffer)), (ad 0, .inr (10, oM ad m_undoCount m_thrown m_hasSnapshot a_m_fam m_rows m_lineLength m_formattedLength m_bufferLength m_limit m_next_20 m_beginsAt_20 m_token_20 m_error_59 m_errorAt_59 m_errorPosition m_nested m_codeCount))] H := hP
          have hD : va_D A [(a_m_fam, .inl (cJ, 130, .inr (.inl m_fam))), ((ad 24), .inl (cI, 800, .inl m_buffer)), (ad 0, .inr (10, oM ad m_undoCount m_thrown m_hasSnapshot a_m_fam m_rows m_lineLength m_formattedLength m_bufferLength m_limit m_next_20 m_beginsAt_20 m_token_20 m_error_59 m_errorAt_59 m_errorPosition m_nested m_codeCount))] := hD
          exact J62 m_next_20 m_beginsAt_20 m_token_20 m_error_59 m_errorAt_59 H locs ls hf (hP.sub [2, 1, 0] rfl) (hD.sub [2, 1, 0] (by decide) rfl) hS (lv_sub hl [0] rfl)
        · have hf := itf h9 hf
          refine lv_iconst (v := 1) hx hb dX10_readPerson_53 (by decide) ?_
          refine lv_goto (tgt := 58) hx hb dX10_readPerson_54 (by decide) ?_
          refine lv_iconst (v := 1) hx hb dX10_readPerson_58 (by decide) ?_
          obtain ⟨m_error_59, m_errorAt_59, h9⟩ : ∃ m_error_59 m_errorAt_59, p10_check m_beginsAt_20 m_error_19 m_errorAt_19 true (1 : Int32) = (m_error_59, m_errorAt_59) := ⟨_, _, rfl⟩
          have hf := uc2_e (lb_e h9.symm hf)
          refine gcV (index := 415) S hE (c_X10_check ad a_m_fam m_undoCount m_thrown m_hasSnapshot m_rows m_lineLength m_formattedLength m_bufferLength m_limit m_next_20 m_beginsAt_20 m_token_20 m_error_19 m_errorAt_19 m_errorPosition m_nested m_codeCount true (1 : Int32) m_error_59 m_errorAt_59 h9) mX10_check tw1968 ⟨Nat.le_of_ble_eq_true rfl, Nat.le_of_ble_eq_true rfl⟩ hP hD hS hA ⟨Nat.zero_le _, Nat.zero_le _⟩ 1 10 rfl rfl rfl (wr := [(a_m_fam, .inl (cJ, 130, .inr (.inl m_fam))), ((ad 24), .inl (cI, 800, .inl m_buffer))]) [1] [0, 2] rfl rfl rfl rfl (by decide) (As := [.int (bI true), .int (1 : Int32)]) (rest := []) rfl hl.1 rfl (Nat.le_of_ble_eq_true rfl) dX10_readPerson_59 (fun H locs hP hD hS => ?_)
          refine W.eq (g2 := F0 m 62 ls []) rfl ?_
          have hP : va_P (dC, dI) vwCl [(a_m_fam, .inl (cJ, 130, .inr (.inl m_fam))), ((ad 24), .inl (cI, 800, .inl m_buffer)), (ad 0, .inr (10, oM ad m_undoCount m_thrown m_hasSnapshot a_m_fam m_rows m_lineLength m_formattedLength m_bufferLength m_limit m_next_20 m_beginsAt_20 m_token_20 m_error_59 m_errorAt_59 m_errorPosition m_nested m_codeCount))] H := hP
          have hD : va_D A [(a_m_fam, .inl (cJ, 130, .inr (.inl m_fam))), ((ad 24), .inl (cI, 800, .inl m_buffer)), (ad 0, .inr (10, oM ad m_undoCount m_thrown m_hasSnapshot a_m_fam m_rows m_lineLength m_formattedLength m_bufferLength m_limit m_next_20 m_beginsAt_20 m_token_20 m_error_59 m_errorAt_59 m_errorPosition m_nested m_codeCount))] := hD
          exact J62 m_next_20 m_beginsAt_20 m_token_20 m_error_59 m_errorAt_59 H locs ls hf (hP.sub [2, 1, 0] rfl) (hD.sub [2, 1, 0] (by decide) rfl) hS (lv_sub hl [0] rfl)
  refine lv_aload_n hx hb dX10_readPerson_0 rfl (lv_at hl 0 rfl) ?_
  refine lv_aload_n hx hb dX10_readPerson_1 rfl (lv_at hl 0 rfl) ?_
  obtain ⟨r2, h9, hf⟩ := ob_s hf
  refine gcV (index := 121) S hE (c_X10_persons ad a_m_fam m_undoCount m_thrown m_hasSnapshot m_rows m_lineLength m_formattedLength m_bufferLength m_limit m_next m_beginsAt m_token m_error m_errorAt m_errorPosition m_nested m_codeCount m_fam r2 h9) mX10_persons tw1511 ⟨Nat.le_of_ble_eq_true rfl, Nat.le_of_ble_eq_true rfl⟩ hP hD hS hA ⟨Nat.zero_le _, Nat.zero_le _⟩ 0 10 rfl rfl rfl (wr := [((ad 24), .inl (cI, 800, .inl m_buffer))]) [0, 2] [1] rfl rfl rfl rfl (by decide) (As := []) (rest := [.ref (ad 0)]) rfl hl.1 rfl (Nat.le_of_ble_eq_true rfl) dX10_readPerson_2 (fun H locs hP hD hS => ?_)
  refine W.eq (g2 := F0 m 5 ls [.int r2, .ref (ad 0)]) rfl ?_
  have hP : va_P (dC, dI) vwCl [((ad 24), .inl (cI, 800, .inl m_buffer)), (ad 0, .inr (10, oM ad m_undoCount m_thrown m_hasSnapshot a_m_fam m_rows m_lineLength m_formattedLength m_bufferLength m_limit m_next m_beginsAt m_token m_error m_errorAt m_errorPosition m_nested m_codeCount)), (a_m_fam, .inl (cJ, 130, .inr (.inl m_fam)))] H := hP
  have hD : va_D A [((ad 24), .inl (cI, 800, .inl m_buffer)), (ad 0, .inr (10, oM ad m_undoCount m_thrown m_hasSnapshot a_m_fam m_rows m_lineLength m_formattedLength m_bufferLength m_limit m_next m_beginsAt m_token m_error m_errorAt m_errorPosition m_nested m_codeCount)), (a_m_fam, .inl (cJ, 130, .inr (.inl m_fam)))] := hD
  refine lv_bipush (v := 16) hx hb dX10_readPerson_5 (by decide) ?_
  refine lv_icmp_ge (tgt := 14) hx hb dX10_readPerson_7 (by decide) (fun h9 => ?_) (fun h9 => ?_)
  · have hf := itt h9 hf
    refine lv_iconst (v := 0) hx hb dX10_readPerson_14 (by decide) ?_
    refine lv_iconst (v := 3) hx hb dX10_readPerson_15 (by decide) ?_
    obtain ⟨m_error_16, m_errorAt_16, h9⟩ : ∃ m_error_16 m_errorAt_16, p10_check m_beginsAt m_error m_errorAt false (3 : Int32) = (m_error_16, m_errorAt_16) := ⟨_, _, rfl⟩
    have hf := uc2_e (lb_e h9.symm hf)
    refine gcV (index := 415) S hE (c_X10_check ad a_m_fam m_undoCount m_thrown m_hasSnapshot m_rows m_lineLength m_formattedLength m_bufferLength m_limit m_next m_beginsAt m_token m_error m_errorAt m_errorPosition m_nested m_codeCount false (3 : Int32) m_error_16 m_errorAt_16 h9) mX10_check tw1968 ⟨Nat.le_of_ble_eq_true rfl, Nat.le_of_ble_eq_true rfl⟩ hP hD hS hA ⟨Nat.zero_le _, Nat.zero_le _⟩ 1 10 rfl rfl rfl (wr := [((ad 24), .inl (cI, 800, .inl m_buffer)), (a_m_fam, .inl (cJ, 130, .inr (.inl m_fam)))]) [1] [0, 2] rfl rfl rfl rfl (by decide) (As := [.int (bI false), .int (3 : Int32)]) (rest := []) rfl hl.1 rfl (Nat.le_of_ble_eq_true rfl) dX10_readPerson_16 (fun H locs hP hD hS => ?_)
    refine W.eq (g2 := F0 m 19 ls []) rfl ?_
    have hP : va_P (dC, dI) vwCl [((ad 24), .inl (cI, 800, .inl m_buffer)), (a_m_fam, .inl (cJ, 130, .inr (.inl m_fam))), (ad 0, .inr (10, oM ad m_undoCount m_thrown m_hasSnapshot a_m_fam m_rows m_lineLength m_formattedLength m_bufferLength m_limit m_next m_beginsAt m_token m_error_16 m_errorAt_16 m_errorPosition m_nested m_codeCount))] H := hP
    have hD : va_D A [((ad 24), .inl (cI, 800, .inl m_buffer)), (a_m_fam, .inl (cJ, 130, .inr (.inl m_fam))), (ad 0, .inr (10, oM ad m_undoCount m_thrown m_hasSnapshot a_m_fam m_rows m_lineLength m_formattedLength m_bufferLength m_limit m_next m_beginsAt m_token m_error_16 m_errorAt_16 m_errorPosition m_nested m_codeCount))] := hD
    exact J19 m_error_16 m_errorAt_16 H locs ls hf (hP.sub [2, 0, 1] rfl) (hD.sub [2, 0, 1] (by decide) rfl) hS (lv_sub hl [0] rfl)
  · have hf := itf h9 hf
    refine lv_iconst (v := 1) hx hb dX10_readPerson_10 (by decide) ?_
    refine lv_goto (tgt := 15) hx hb dX10_readPerson_11 (by decide) ?_
    refine lv_iconst (v := 3) hx hb dX10_readPerson_15 (by decide) ?_
    obtain ⟨m_error_16, m_errorAt_16, h9⟩ : ∃ m_error_16 m_errorAt_16, p10_check m_beginsAt m_error m_errorAt true (3 : Int32) = (m_error_16, m_errorAt_16) := ⟨_, _, rfl⟩
    have hf := uc2_e (lb_e h9.symm hf)
    refine gcV (index := 415) S hE (c_X10_check ad a_m_fam m_undoCount m_thrown m_hasSnapshot m_rows m_lineLength m_formattedLength m_bufferLength m_limit m_next m_beginsAt m_token m_error m_errorAt m_errorPosition m_nested m_codeCount true (3 : Int32) m_error_16 m_errorAt_16 h9) mX10_check tw1968 ⟨Nat.le_of_ble_eq_true rfl, Nat.le_of_ble_eq_true rfl⟩ hP hD hS hA ⟨Nat.zero_le _, Nat.zero_le _⟩ 1 10 rfl rfl rfl (wr := [((ad 24), .inl (cI, 800, .inl m_buffer)), (a_m_fam, .inl (cJ, 130, .inr (.inl m_fam)))]) [1] [0, 2] rfl rfl rfl rfl (by decide) (As := [.int (bI true), .int (3 : Int32)]) (rest := []) rfl hl.1 rfl (Nat.le_of_ble_eq_true rfl) dX10_readPerson_16 (fun H locs hP hD hS => ?_)
    refine W.eq (g2 := F0 m 19 ls []) rfl ?_
    have hP : va_P (dC, dI) vwCl [((ad 24), .inl (cI, 800, .inl m_buffer)), (a_m_fam, .inl (cJ, 130, .inr (.inl m_fam))), (ad 0, .inr (10, oM ad m_undoCount m_thrown m_hasSnapshot a_m_fam m_rows m_lineLength m_formattedLength m_bufferLength m_limit m_next m_beginsAt m_token m_error_16 m_errorAt_16 m_errorPosition m_nested m_codeCount))] H := hP
    have hD : va_D A [((ad 24), .inl (cI, 800, .inl m_buffer)), (a_m_fam, .inl (cJ, 130, .inr (.inl m_fam))), (ad 0, .inr (10, oM ad m_undoCount m_thrown m_hasSnapshot a_m_fam m_rows m_lineLength m_formattedLength m_bufferLength m_limit m_next m_beginsAt m_token m_error_16 m_errorAt_16 m_errorPosition m_nested m_codeCount))] := hD
    exact J19 m_error_16 m_errorAt_16 H locs ls hf (hP.sub [2, 0, 1] rfl) (hD.sub [2, 0, 1] (by decide) rfl) hS (lv_sub hl [0] rfl)
def p10_readName_J41 (m_beginsAt : Int32) (v1_41 : Int32) (m_error_41 : Int32) (m_errorAt_41 : Int32) : Option (Int32 × Int32 × Int32) := (if m_error_41 = (0 : Int32) then (if v1_41 = (-1 : Int32) then lb (p10_check m_beginsAt m_error_41 m_errorAt_41 false (4 : Int32)) (uc2 fun m_error_60 m_errorAt_60 => some (v1_41, m_error_60, m_errorAt_60)) else lb (p10_check m_beginsAt m_error_41 m_errorAt_41 true (4 : Int32)) (uc2 fun m_error_60 m_errorAt_60 => some (v1_41, m_error_60, m_errorAt_60))) else lb (p10_check m_beginsAt m_error_41 m_errorAt_41 true (4 : Int32)) (uc2 fun m_error_60 m_errorAt_60 => some (v1_41, m_error_60, m_errorAt_60)))
def p10_readName_J25 (m_beginsAt : Int32) (m_buffer : Nat → Int32) (m_fam : Nat → Int64) (m_next : Int32) (m_token : Int32) (m_error_25 : Int32) (m_errorAt_25 : Int32) : Option (Int32 × Int32 × Int32) := (if m_error_25 = (0 : Int32) then ob (p10_personHere m_next m_beginsAt m_token m_buffer m_fam) (fun r37 => (p10_readName_J41 m_beginsAt r37 m_error_25 m_errorAt_25)) else (p10_readName_J41 m_beginsAt (-1 : Int32) m_error_25 m_errorAt_25))
def p10_readName (m_next : Int32) (m_beginsAt : Int32) (m_token : Int32) (m_error : Int32) (m_errorAt : Int32) (m_buffer : Nat → Int32) (m_fam : Nat → Int64) : Option (Int32 × Int32 × Int32) := (if m_error = (0 : Int32) then (if m_token = (1 : Int32) then lb (p10_check m_beginsAt m_error m_errorAt true (1 : Int32)) (uc2 fun m_error_22 m_errorAt_22 => (p10_readName_J25 m_beginsAt m_buffer m_fam m_next m_token m_error_22 m_errorAt_22)) else lb (p10_check m_beginsAt m_error m_errorAt false (1 : Int32)) (uc2 fun m_error_22 m_errorAt_22 => (p10_readName_J25 m_beginsAt m_buffer m_fam m_next m_token m_error_22 m_errorAt_22))) else lb (p10_check m_beginsAt m_error m_errorAt true (1 : Int32)) (uc2 fun m_error_22 m_errorAt_22 => (p10_readName_J25 m_beginsAt m_buffer m_fam m_next m_token m_error_22 m_errorAt_22)))
set_option maxHeartbeats 4000000 in
set_option maxRecDepth 100000 in
theorem c_X10_readName (ad : Nat → Nat) (a_m_fam : Nat) (m_undoCount : Int32) (m_thrown : Int32) (m_hasSnapshot : Bool) (m_rows : Int32) (m_lineLength : Int32) (m_formattedLength : Int32) (m_bufferLength : Int32) (m_limit : Int32) (m_next : Int32) (m_beginsAt : Int32) (m_token : Int32) (m_error : Int32) (m_errorAt : Int32) (m_errorPosition : Int32) (m_nested : Int32) (m_codeCount : Int32) (m_buffer : Nat → Int32) (m_fam : Nat → Int64) (r9 : Int32) (m_error_9 : Int32) (m_errorAt_9 : Int32) (hf : p10_readName m_next m_beginsAt m_token m_error m_errorAt m_buffer m_fam = some (r9, m_error_9, m_errorAt_9)) : gM l dC dI cI cJ cZ yX10_readName cX10_readName 2 (some .int) (2) (44) [.ref (ad 0)] [(ad 0, .inr (10, oM ad m_undoCount m_thrown m_hasSnapshot a_m_fam m_rows m_lineLength m_formattedLength m_bufferLength m_limit m_next m_beginsAt m_token m_error m_errorAt m_errorPosition m_nested m_codeCount)), ((ad 24), .inl (cI, 800, .inl m_buffer)), (a_m_fam, .inl (cJ, 130, .inr (.inl m_fam)))] [(ad 0, .inr (10, oM ad m_undoCount m_thrown m_hasSnapshot a_m_fam m_rows m_lineLength m_formattedLength m_bufferLength m_limit m_next m_beginsAt m_token m_error_9 m_errorAt_9 m_errorPosition m_nested m_codeCount)), ((ad 24), .inl (cI, 800, .inl m_buffer)), (a_m_fam, .inl (cJ, 130, .inr (.inl m_fam)))] (some (.int r9)) := by
  refine g_start (own := RX10) (by decide +kernel) rfl (Nat.le_of_ble_eq_true rfl) ?_
  intro p e s m below meth c A ls S hr hlocks hE hP hD hS hA hl hin
  have hx := S.1
  have hb := S.2.1
  have hml := S.2.2.1
  have hown := S.2.2.2.1
  have htg : ∀ z ∈ gw, z.before ([.ref (ad 0)] : List Value).toArray s = true := fun w h => S.2.2.2.2 w (List.mem_cons_of_mem _ h)
  have hl : lv_has ls 2 [(0, .ref (ad 0))] := hl
  have hS0 := hS
  obtain ⟨H, hH⟩ : ∃ H, H = s.heap := ⟨_, rfl⟩
  obtain ⟨locs, hlc⟩ : ∃ locs : List Loc, locs = [] := ⟨_, rfl⟩
  have hS : va_S A s.heap H locs := by rw [hH, hlc]; exact hS0
  have hP : va_P (dC, dI) vwCl [(ad 0, .inr (10, oM ad m_undoCount m_thrown m_hasSnapshot a_m_fam m_rows m_lineLength m_formattedLength m_bufferLength m_limit m_next m_beginsAt m_token m_error m_errorAt m_errorPosition m_nested m_codeCount)), ((ad 24), .inl (cI, 800, .inl m_buffer)), (a_m_fam, .inl (cJ, 130, .inr (.inl m_fam)))] H := by rw [hH]; exact hP
  suffices hgo : W p l e ({ frames := 2, cells := 0, slots := 0, locals := 44 }) s m ([.ref (ad 0)] : List Value).toArray below meth c H locs 0 0 (MQ below (gQ dC dI (some (.int r9)) A [(ad 0, .inr (10, oM ad m_undoCount m_thrown m_hasSnapshot a_m_fam m_rows m_lineLength m_formattedLength m_bufferLength m_limit m_next m_beginsAt m_token m_error_9 m_errorAt_9 m_errorPosition m_nested m_codeCount)), ((ad 24), .inl (cI, 800, .inl m_buffer)), (a_m_fam, .inl (cJ, 130, .inr (.inl m_fam)))]) ([.ref (ad 0)] : List Value).toArray s 0 0 A) (F0 m 0 ls []) by rw [hH, hlc] at hgo; exact hgo
  rw [p10_readName] at hf
  have J41 : ∀ (v1_41 : Int32) (m_error_41 : Int32) (m_errorAt_41 : Int32) (H : Heap) (locs : List Loc) (ls : Array Slot), p10_readName_J41 m_beginsAt v1_41 m_error_41 m_errorAt_41 = some (r9, m_error_9, m_errorAt_9) → va_P (dC, dI) vwCl [(ad 0, .inr (10, oM ad m_undoCount m_thrown m_hasSnapshot a_m_fam m_rows m_lineLength m_formattedLength m_bufferLength m_limit m_next m_beginsAt m_token m_error_41 m_errorAt_41 m_errorPosition m_nested m_codeCount)), ((ad 24), .inl (cI, 800, .inl m_buffer)), (a_m_fam, .inl (cJ, 130, .inr (.inl m_fam)))] H → va_D A [(ad 0, .inr (10, oM ad m_undoCount m_thrown m_hasSnapshot a_m_fam m_rows m_lineLength m_formattedLength m_bufferLength m_limit m_next m_beginsAt m_token m_error_41 m_errorAt_41 m_errorPosition m_nested m_codeCount)), ((ad 24), .inl (cI, 800, .inl m_buffer)), (a_m_fam, .inl (cJ, 130, .inr (.inl m_fam)))] → va_S A s.heap H locs → lv_has ls 2 [(0, .ref (ad 0)), (1, .int v1_41)] → W p l e ({ frames := 2, cells := 0, slots := 0, locals := 44 }) s m ([.ref (ad 0)] : List Value).toArray below meth c H locs 0 0 (MQ below (gQ dC dI (some (.int r9)) A [(ad 0, .inr (10, oM ad m_undoCount m_thrown m_hasSnapshot a_m_fam m_rows m_lineLength m_formattedLength m_bufferLength m_limit m_next m_beginsAt m_token m_error_9 m_errorAt_9 m_errorPosition m_nested m_codeCount)), ((ad 24), .inl (cI, 800, .inl m_buffer)), (a_m_fam, .inl (cJ, 130, .inr (.inl m_fam)))]) ([.ref (ad 0)] : List Value).toArray s 0 0 A) (F0 m 41 ls []) := by
    intro v1_41 m_error_41 m_errorAt_41 H locs ls hf hP hD hS hl
    rw [p10_readName_J41] at hf
    refine lv_aload_n hx hb dX10_readName_41 rfl (lv_at hl 0 rfl) ?_
    refine lv_aload_n hx hb dX10_readName_42 rfl (lv_at hl 0 rfl) ?_
    refine va_get (D := (dC, dI)) (ci := 10) (v := .int m_error_41) (C := RX10) (T := TX10) (N := 37) hx hb htg inX10 hown hE.1 hP 0 rfl rfl 29 (by decide) (htg _ tw1411) (fun _ h9 => h9) rfl dX10_readName_43 ?_
    refine lv_if_ne (tgt := 54) hx hb dX10_readName_46 (by decide) (fun h9 => ?_) (fun h9 => ?_)
    · have hf := itf h9 hf
      refine lv_iconst (v := 1) hx hb dX10_readName_54 (by decide) ?_
      refine lv_goto (tgt := 59) hx hb dX10_readName_55 (by decide) ?_
      refine lv_iconst (v := 4) hx hb dX10_readName_59 (by decide) ?_
      obtain ⟨m_error_60, m_errorAt_60, h9⟩ : ∃ m_error_60 m_errorAt_60, p10_check m_beginsAt m_error_41 m_errorAt_41 true (4 : Int32) = (m_error_60, m_errorAt_60) := ⟨_, _, rfl⟩
      have hf := uc2_e (lb_e h9.symm hf)
      refine gcV (index := 415) S hE (c_X10_check ad a_m_fam m_undoCount m_thrown m_hasSnapshot m_rows m_lineLength m_formattedLength m_bufferLength m_limit m_next m_beginsAt m_token m_error_41 m_errorAt_41 m_errorPosition m_nested m_codeCount true (4 : Int32) m_error_60 m_errorAt_60 h9) mX10_check tw1968 ⟨Nat.le_of_ble_eq_true rfl, Nat.le_of_ble_eq_true rfl⟩ hP hD hS hA ⟨Nat.zero_le _, Nat.zero_le _⟩ 0 10 rfl rfl rfl (wr := [((ad 24), .inl (cI, 800, .inl m_buffer)), (a_m_fam, .inl (cJ, 130, .inr (.inl m_fam)))]) [0] [1, 2] rfl rfl rfl rfl (by decide) (As := [.int (bI true), .int (4 : Int32)]) (rest := []) rfl hl.1 rfl (Nat.le_of_ble_eq_true rfl) dX10_readName_60 (fun H locs hP hD hS => ?_)
      refine W.eq (g2 := F0 m 63 ls []) rfl ?_
      have hP : va_P (dC, dI) vwCl [((ad 24), .inl (cI, 800, .inl m_buffer)), (a_m_fam, .inl (cJ, 130, .inr (.inl m_fam))), (ad 0, .inr (10, oM ad m_undoCount m_thrown m_hasSnapshot a_m_fam m_rows m_lineLength m_formattedLength m_bufferLength m_limit m_next m_beginsAt m_token m_error_60 m_errorAt_60 m_errorPosition m_nested m_codeCount))] H := hP
      have hD : va_D A [((ad 24), .inl (cI, 800, .inl m_buffer)), (a_m_fam, .inl (cJ, 130, .inr (.inl m_fam))), (ad 0, .inr (10, oM ad m_undoCount m_thrown m_hasSnapshot a_m_fam m_rows m_lineLength m_formattedLength m_bufferLength m_limit m_next m_beginsAt m_token m_error_60 m_errorAt_60 m_errorPosition m_nested m_codeCount))] := hD
      refine lv_iload_n hx hb dX10_readName_63 rfl (lv_at hl 1 rfl) ?_
      cases hf
      exact g_iret S hr hlocks (hP.sub [2, 0, 1] rfl) (hD.sub [2, 0, 1] (by decide) rfl) hS dX10_readName_64
    · have hf := itt h9 hf
      refine lv_iload_n hx hb dX10_readName_49 rfl (lv_at hl 1 rfl) ?_
      refine lv_iconst (v := -1) hx hb dX10_readName_50 (by decide) ?_
      refine lv_icmp_eq (tgt := 58) hx hb dX10_readName_51 (by decide) (fun h9 => ?_) (fun h9 => ?_)
      · have hf := itt h9 hf
        refine lv_iconst (v := 0) hx hb dX10_readName_58 (by decide) ?_
        refine lv_iconst (v := 4) hx hb dX10_readName_59 (by decide) ?_
        obtain ⟨m_error_60, m_errorAt_60, h9⟩ : ∃ m_error_60 m_errorAt_60, p10_check m_beginsAt m_error_41 m_errorAt_41 false (4 : Int32) = (m_error_60, m_errorAt_60) := ⟨_, _, rfl⟩
        have hf := uc2_e (lb_e h9.symm hf)
        refine gcV (index := 415) S hE (c_X10_check ad a_m_fam m_undoCount m_thrown m_hasSnapshot m_rows m_lineLength m_formattedLength m_bufferLength m_limit m_next m_beginsAt m_token m_error_41 m_errorAt_41 m_errorPosition m_nested m_codeCount false (4 : Int32) m_error_60 m_errorAt_60 h9) mX10_check tw1968 ⟨Nat.le_of_ble_eq_true rfl, Nat.le_of_ble_eq_true rfl⟩ hP hD hS hA ⟨Nat.zero_le _, Nat.zero_le _⟩ 0 10 rfl rfl rfl (wr := [((ad 24), .inl (cI, 800, .inl m_buffer)), (a_m_fam, .inl (cJ, 130, .inr (.inl m_fam)))]) [0] [1, 2] rfl rfl rfl rfl (by decide) (As := [.int (bI false), .int (4 : Int32)]) (rest := []) rfl hl.1 rfl (Nat.le_of_ble_eq_true rfl) dX10_readName_60 (fun H locs hP hD hS => ?_)
        refine W.eq (g2 := F0 m 63 ls []) rfl ?_
        have hP : va_P (dC, dI) vwCl [((ad 24), .inl (cI, 800, .inl m_buffer)), (a_m_fam, .inl (cJ, 130, .inr (.inl m_fam))), (ad 0, .inr (10, oM ad m_undoCount m_thrown m_hasSnapshot a_m_fam m_rows m_lineLength m_formattedLength m_bufferLength m_limit m_next m_beginsAt m_token m_error_60 m_errorAt_60 m_errorPosition m_nested m_codeCount))] H := hP
        have hD : va_D A [((ad 24), .inl (cI, 800, .inl m_buffer)), (a_m_fam, .inl (cJ, 130, .inr (.inl m_fam))), (ad 0, .inr (10, oM ad m_undoCount m_thrown m_hasSnapshot a_m_fam m_rows m_lineLength m_formattedLength m_bufferLength m_limit m_next m_beginsAt m_token m_error_60 m_errorAt_60 m_errorPosition m_nested m_codeCount))] := hD
        refine lv_iload_n hx hb dX10_readName_63 rfl (lv_at hl 1 rfl) ?_
        cases hf
        exact g_iret S hr hlocks (hP.sub [2, 0, 1] rfl) (hD.sub [2, 0, 1] (by decide) rfl) hS dX10_readName_64
      · have hf := itf h9 hf
        refine lv_iconst (v := 1) hx hb dX10_readName_54 (by decide) ?_
        refine lv_goto (tgt := 59) hx hb dX10_readName_55 (by decide) ?_
        refine lv_iconst (v := 4) hx hb dX10_readName_59 (by decide) ?_
        obtain ⟨m_error_60, m_errorAt_60, h9⟩ : ∃ m_error_60 m_errorAt_60, p10_check m_beginsAt m_error_41 m_errorAt_41 true (4 : Int32) = (m_error_60, m_errorAt_60) := ⟨_, _, rfl⟩
        have hf := uc2_e (lb_e h9.symm hf)
        refine gcV (index := 415) S hE (c_X10_check ad a_m_fam m_undoCount m_thrown m_hasSnapshot m_rows m_lineLength m_formattedLength m_bufferLength m_limit m_next m_beginsAt m_token m_error_41 m_errorAt_41 m_errorPosition m_nested m_codeCount true (4 : Int32) m_error_60 m_errorAt_60 h9) mX10_check tw1968 ⟨Nat.le_of_ble_eq_true rfl, Nat.le_of_ble_eq_true rfl⟩ hP hD hS hA ⟨Nat.zero_le _, Nat.zero_le _⟩ 0 10 rfl rfl rfl (wr := [((ad 24), .inl (cI, 800, .inl m_buffer)), (a_m_fam, .inl (cJ, 130, .inr (.inl m_fam)))]) [0] [1, 2] rfl rfl rfl rfl (by decide) (As := [.int (bI true), .int (4 : Int32)]) (rest := []) rfl hl.1 rfl (Nat.le_of_ble_eq_true rfl) dX10_readName_60 (fun H locs hP hD hS => ?_)
        refine W.eq (g2 := F0 m 63 ls []) rfl ?_
        have hP : va_P (dC, dI) vwCl [((ad 24), .inl (cI, 800, .inl m_buffer)), (a_m_fam, .inl (cJ, 130, .inr (.inl m_fam))), (ad 0, .inr (10, oM ad m_undoCount m_thrown m_hasSnapshot a_m_fam m_rows m_lineLength m_formattedLength m_bufferLength m_limit m_next m_beginsAt m_token m_error_60 m_errorAt_60 m_errorPosition m_nested m_codeCount))] H := hP
        have hD : va_D A [((ad 24), .inl (cI, 800, .inl m_buffer)), (a_m_fam, .inl (cJ, 130, .inr (.inl m_fam))), (ad 0, .inr (10, oM ad m_undoCount m_thrown m_hasSnapshot a_m_fam m_rows m_lineLength m_formattedLength m_bufferLength m_limit m_next m_beginsAt m_token m_error_60 m_errorAt_60 m_errorPosition m_nested m_codeCount))] := hD
        refine lv_iload_n hx hb dX10_readName_63 rfl (lv_at hl 1 rfl) ?_
        cases hf
        exact g_iret S hr hlocks (hP.sub [2, 0, 1] rfl) (hD.sub [2, 0, 1] (by decide) rfl) hS dX10_readName_64
  have J25 : ∀ (m_error_25 : Int32) (m_errorAt_25 : Int32) (H : Heap) (locs : List Loc) (ls : Array Slot), p10_readName_J25 m_beginsAt m_buffer m_fam m_next m_token m_error_25 m_errorAt_25 = some (r9, m_error_9, m_errorAt_9) → va_P (dC, dI) vwCl [(ad 0, .inr (10, oM ad m_undoCount m_thrown m_hasSnapshot a_m_fam m_rows m_lineLength m_formattedLength m_bufferLength m_limit m_next m_beginsAt m_token m_error_25 m_errorAt_25 m_errorPosition m_nested m_codeCount)), ((ad 24), .inl (cI, 800, .inl m_buffer)), (a_m_fam, .inl (cJ, 130, .inr (.inl m_fam)))] H → va_D A [(ad 0, .inr (10, oM ad m_undoCount m_thrown m_hasSnapshot a_m_fam m_rows m_lineLength m_formattedLength m_bufferLength m_limit m_next m_beginsAt m_token m_error_25 m_errorAt_25 m_errorPosition m_nested m_codeCount)), ((ad 24), .inl (cI, 800, .inl m_buffer)), (a_m_fam, .inl (cJ, 130, .inr (.inl m_fam)))] → va_S A s.heap H locs → lv_has ls 2 [(0, .ref (ad 0))] → W p l e ({ frames := 2, cells := 0, slots := 0, locals := 44 }) s m ([.ref (ad 0)] : List Value).toArray below meth c H locs 0 0 (MQ below (gQ dC dI (some (.int r9)) A [(ad 0, .inr (10, oM ad m_undoCount m_thrown m_hasSnapshot a_m_fam m_rows m_lineLength m_formattedLength m_bufferLength m_limit m_next m_beginsAt m_token m_error_9 m_errorAt_9 m_errorPosition m_nested m_codeCount)), ((ad 24), .inl (cI, 800, .inl m_buffer)), (a_m_fam, .inl (cJ, 130, .inr (.inl m_fam)))]) ([.ref (ad 0)] : List Value).toArray s 0 0 A) (F0 m 25 ls []) := by
    intro m_error_25 m_errorAt_25 H locs ls hf hP hD hS hl
    rw [p10_readName_J25] at hf
    refine lv_aload_n hx hb dX10_readName_25 rfl (lv_at hl 0 rfl) ?_
    refine va_get (D := (dC, dI)) (ci := 10) (v := .int m_error_25) (C := RX10) (T := TX10) (N := 37) hx hb htg inX10 hown hE.1 hP 0 rfl rfl 29 (by decide) (htg _ tw1411) (fun _ h9 => h9) rfl dX10_readName_26 ?_
    refine lv_if_eq (tgt := 36) hx hb dX10_readName_29 (by decide) (fun h9 => ?_) (fun h9 => ?_)
    · have hf := itt h9 hf
      refine lv_aload_n hx hb dX10_readName_36 rfl (lv_at hl 0 rfl) ?_
      obtain ⟨r37, h9, hf⟩ := ob_s hf
      refine gcV (index := 438) S hE (c_X10_personHere ad a_m_fam m_undoCount m_thrown m_hasSnapshot m_rows m_lineLength m_formattedLength m_bufferLength m_limit m_next m_beginsAt m_token m_error_25 m_errorAt_25 m_errorPosition m_nested m_codeCount m_buffer m_fam r37 h9) mX10_personHere tw1980 ⟨Nat.le_of_ble_eq_true rfl, Nat.le_of_ble_eq_true rfl⟩ hP hD hS hA ⟨Nat.zero_le _, Nat.zero_le _⟩ 0 10 rfl rfl rfl (wr := []) [0, 1, 2] [] rfl rfl rfl rfl (by decide) (As := []) (rest := []) rfl hl.1 rfl (Nat.le_of_ble_eq_true rfl) dX10_readName_37 (fun H locs hP hD hS => ?_)
      refine W.eq (g2 := F0 m 40 ls [.int r37]) rfl ?_
      have hP : va_P (dC, dI) vwCl [(ad 0, .inr (10, oM ad m_undoCount m_thrown m_hasSnapshot a_m_fam m_rows m_lineLength m_formattedLength m_bufferLength m_limit m_next m_beginsAt m_token m_error_25 m_errorAt_25 m_errorPosition m_nested m_codeCount)), ((ad 24), .inl (cI, 800, .inl m_buffer)), (a_m_fam, .inl (cJ, 130, .inr (.inl m_fam)))] H := hP
      have hD : va_D A [(ad 0, .inr (10, oM ad m_undoCount m_thrown m_hasSnapshot a_m_fam m_rows m_lineLength m_formattedLength m_bufferLength m_limit m_next m_beginsAt m_token m_error_25 m_errorAt_25 m_errorPosition m_nested m_codeCount)), ((ad 24), .inl (cI, 800, .inl m_buffer)), (a_m_fam, .inl (cJ, 130, .inr (.inl m_fam)))] := hD
      refine lv_istore_n (lv' := [(1, .int r37), (0, .ref (ad 0))]) hx hb dX10_readName_40 rfl hl (by decide) rfl (fun ls hl => ?_)
      exact J41 r37 m_error_25 m_errorAt_25 H locs ls hf hP hD hS (lv_sub hl [1, 0] rfl)
    · have hf := itf h9 hf
      refine lv_iconst (v := -1) hx hb dX10_readName_32 (by decide) ?_
      refine lv_goto (tgt := 40) hx hb dX10_readName_33 (by decide) ?_
      refine lv_istore_n (lv' := [(1, .int (-1 : Int32)), (0, .ref (ad 0))]) hx hb dX10_readName_40 rfl hl (by decide) rfl (fun ls hl => ?_)
      exact J41 (-1 : Int32) m_error_25 m_errorAt_25 H locs ls hf hP hD hS (lv_sub hl [1, 0] rfl)
  refine lv_aload_n hx hb dX10_readName_0 rfl (lv_at hl 0 rfl) ?_
  refine lv_aload_n hx hb dX10_readName_1 rfl (lv_at hl 0 rfl) ?_
  refine va_get (D := (dC, dI)) (ci := 10) (v := .int m_error) (C := RX10) (T := TX10) (N := 37) hx hb htg inX10 hown hE.1 hP 0 rfl rfl 29 (by decide) (htg _ tw1411) (fun _ h9 => h9) rfl dX10_readName_2 ?_
  refine lv_if_ne (tgt := 16) hx hb dX10_readName_5 (by decide) (fun h9 => ?_) (fun h9 => ?_)
  · have hf := itf h9 hf
    refine lv_iconst (v := 1) hx hb dX10_readName_16 (by decide) ?_
    refine lv_goto (tgt := 21) hx hb dX10_readName_17 (by decide) ?_
    refine lv_iconst (v := 1) hx hb dX10_readName_21 (by decide) ?_
    obtain ⟨m_error_22, m_errorAt_22, h9⟩ : ∃ m_error_22 m_errorAt_22, p10_check m_beginsAt m_error m_errorAt true (1 : Int32) = (m_error_22, m_errorAt_22) := ⟨_, _, rfl⟩
    have hf := uc2_e (lb_e h9.symm hf)
    refine gcV (index := 415) S hE (c_X10_check ad a_m_fam m_undoCount m_thrown m_hasSnapshot m_rows m_lineLength m_formattedLength m_bufferLength m_limit m_next m_beginsAt m_token m_error m_errorAt m_errorPosition m_nested m_codeCount true (1 : Int32) m_error_22 m_errorAt_22 h9) mX10_check tw1968 ⟨Nat.le_of_ble_eq_true rfl, Nat.le_of_ble_eq_true rfl⟩ hP hD hS hA ⟨Nat.zero_le _, Nat.zero_le _⟩ 0 10 rfl rfl rfl (wr := [((ad 24), .inl (cI, 800, .inl m_buffer)), (a_m_fam, .inl (cJ, 130, .inr (.inl m_fam)))]) [0] [1, 2] rfl rfl rfl rfl (by decide) (As := [.int (bI true), .int (1 : Int32)]) (rest := []) rfl hl.1 rfl (Nat.le_of_ble_eq_true rfl) dX10_readName_22 (fun H locs hP hD hS => ?_)
    refine W.eq (g2 := F0 m 25 ls []) rfl ?_
    have hP : va_P (dC, dI) vwCl [((ad 24), .inl (cI, 800, .inl m_buffer)), (a_m_fam, .inl (cJ, 130, .inr (.inl m_fam))), (ad 0, .inr (10, oM ad m_undoCount m_thrown m_hasSnapshot a_m_fam m_rows m_lineLength m_formattedLength m_bufferLength m_limit m_next m_beginsAt m_token m_error_22 m_errorAt_22 m_errorPosition m_nested m_codeCount))] H := hP
    have hD : va_D A [((ad 24), .inl (cI, 800, .inl m_buffer)), (a_m_fam, .inl (cJ, 130, .inr (.inl m_fam))), (ad 0, .inr (10, oM ad m_undoCount m_thrown m_hasSnapshot a_m_fam m_rows m_lineLength m_formattedLength m_bufferLength m_limit m_next m_beginsAt m_token m_error_22 m_errorAt_22 m_errorPosition m_nested m_codeCount))] := hD
    exact J25 m_error_22 m_errorAt_22 H locs ls hf (hP.sub [2, 0, 1] rfl) (hD.sub [2, 0, 1] (by decide) rfl) hS (lv_sub hl [0] rfl)
  · have hf := itt h9 hf
    refine lv_aload_n hx hb dX10_readName_8 rfl (lv_at hl 0 rfl) ?_
    refine va_get (D := (dC, dI)) (ci := 10) (v := .int m_token) (C := RX10) (T := TX10) (N := 37) hx hb htg inX10 hown hE.1 hP 0 rfl rfl 28 (by decide) (htg _ tw1410) (fun _ h9 => h9) rfl dX10_readName_9 ?_
    refine lv_iconst (v := 1) hx hb dX10_readName_12 (by decide) ?_
    refine lv_icmp_ne (tgt := 20) hx hb dX10_readName_13 (by decide) (fun h9 => ?_) (fun h9 => ?_)
    · have hf := itf h9 hf
      refine lv_iconst (v := 0) hx hb dX10_readName_20 (by decide) ?_
      refine lv_iconst (v := 1) hx hb dX10_readName_21 (by decide) ?_
      obtain ⟨m_error_22, m_errorAt_22, h9⟩ : ∃ m_error_22 m_errorAt_22, p10_check m_beginsAt m_error m_errorAt false (1 : Int32) = (m_error_22, m_errorAt_22) := ⟨_, _, rfl⟩
      have hf := uc2_e (lb_e h9.symm hf)
      refine gcV (index := 415) S hE (c_X10_check ad a_m_fam m_undoCount m_thrown m_hasSnapshot m_rows m_lineLength m_formattedLength m_bufferLength m_limit m_next m_beginsAt m_token m_error m_errorAt m_errorPosition m_nested m_codeCount false (1 : Int32) m_error_22 m_errorAt_22 h9) mX10_check tw1968 ⟨Nat.le_of_ble_eq_true rfl, Nat.le_of_ble_eq_true rfl⟩ hP hD hS hA ⟨Nat.zero_le _, Nat.zero_le _⟩ 0 10 rfl rfl rfl (wr := [((ad 24), .inl (cI, 800, .inl m_buffer)), (a_m_fam, .inl (cJ, 130, .inr (.inl m_fam)))]) [0] [1, 2] rfl rfl rfl rfl (by decide) (As := [.int (bI false), .int (1 : Int32)]) (rest := []) rfl hl.1 rfl (Nat.le_of_ble_eq_true rfl) dX10_readName_22 (fun H locs hP hD hS => ?_)
      refine W.eq (g2 := F0 m 25 ls []) rfl ?_
      have hP : va_P (dC, dI) vwCl [((ad 24), .inl (cI, 800, .inl m_buffer)), (a_m_fam, .inl (cJ, 130, .inr (.inl m_fam))), (ad 0, .inr (10, oM ad m_undoCount m_thrown m_hasSnapshot a_m_fam m_rows m_lineLength m_formattedLength m_bufferLength m_limit m_next m_beginsAt m_token m_error_22 m_errorAt_22 m_errorPosition m_nested m_codeCount))] H := hP
      have hD : va_D A [((ad 24), .inl (cI, 800, .inl m_buffer)), (a_m_fam, .inl (cJ, 130, .inr (.inl m_fam))), (ad 0, .inr (10, oM ad m_undoCount m_thrown m_hasSnapshot a_m_fam m_rows m_lineLength m_formattedLength m_bufferLength m_limit m_next m_beginsAt m_token m_error_22 m_errorAt_22 m_errorPosition m_nested m_codeCount))] := hD
      exact J25 m_error_22 m_errorAt_22 H locs ls hf (hP.sub [2, 0, 1] rfl) (hD.sub [2, 0, 1] (by decide) rfl) hS (lv_sub hl [0] rfl)
    · have hf := itt h9 hf
      refine lv_iconst (v := 1) hx hb dX10_readName_16 (by decide) ?_
      refine lv_goto (tgt := 21) hx hb dX10_readName_17 (by decide) ?_
      refine lv_iconst (v := 1) hx hb dX10_readName_21 (by decide) ?_
      obtain ⟨m_error_22, m_errorAt_22, h9⟩ : ∃ m_error_22 m_errorAt_22, p10_check m_beginsAt m_error m_errorAt true (1 : Int32) = (m_error_22, m_errorAt_22) := ⟨_, _, rfl⟩
      have hf := uc2_e (lb_e h9.symm hf)
      refine gcV (index := 415) S hE (c_X10_check ad a_m_fam m_undoCount m_thrown m_hasSnapshot m_rows m_lineLength m_formattedLength m_bufferLength m_limit m_next m_beginsAt m_token m_error m_errorAt m_errorPosition m_nested m_codeCount true (1 : Int32) m_error_22 m_errorAt_22 h9) mX10_check tw1968 ⟨Nat.le_of_ble_eq_true rfl, Nat.le_of_ble_eq_true rfl⟩ hP hD hS hA ⟨Nat.zero_le _, Nat.zero_le _⟩ 0 10 rfl rfl rfl (wr := [((ad 24), .inl (cI, 800, .inl m_buffer)), (a_m_fam, .inl (cJ, 130, .inr (.inl m_fam)))]) [0] [1, 2] rfl rfl rfl rfl (by decide) (As := [.int (bI true), .int (1 : Int32)]) (rest := []) rfl hl.1 rfl (Nat.le_of_ble_eq_true rfl) dX10_readName_22 (fun H locs hP hD hS => ?_)
      refine W.eq (g2 := F0 m 25 ls []) rfl ?_
      have hP : va_P (dC, dI) vwCl [((ad 24), .inl (cI, 800, .inl m_buffer)), (a_m_fam, .inl (cJ, 130, .inr (.inl m_fam))), (ad 0, .inr (10, oM ad m_undoCount m_thrown m_hasSnapshot a_m_fam m_rows m_lineLength m_formattedLength m_bufferLength m_limit m_next m_beginsAt m_token m_error_22 m_errorAt_22 m_errorPosition m_nested m_codeCount))] H := hP
      have hD : va_D A [((ad 24), .inl (cI, 800, .inl m_buffer)), (a_m_fam, .inl (cJ, 130, .inr (.inl m_fam))), (ad 0, .inr (10, oM ad m_undoCount m_thrown m_hasSnapshot a_m_fam m_rows m_lineLength m_formattedLength m_bufferLength m_limit m_next m_beginsAt m_token m_error_22 m_errorAt_22 m_errorPosition m_nested m_codeCount))] := hD
      exact J25 m_error_22 m_errorAt_22 H locs ls hf (hP.sub [2, 0, 1] rfl) (hD.sub [2, 0, 1] (by decide) rfl) hS (lv_sub hl [0] rfl)
def p10_readChild_J55 (m_beginsAt : Int32) (m_buffer : Nat → Int32) (m_limit : Int32) (m_next : Int32) (m_token : Int32) (m_error_55 : Int32) (m_errorAt_55 : Int32) (m_fam_55 : Nat → Int64) : Option (Int32 × Int32 × Int32 × (Nat → Int64) × Int32 × Int32) := ob (p10_advance m_limit m_next m_beginsAt m_token m_error_55 m_buffer) (uc3 fun m_beginsAt_56 m_next_56 m_token_56 => some (m_beginsAt_56, m_error_55, m_errorAt_55, m_fam_55, m_next_56, m_token_56))
def p10_readChild_J40 (m_beginsAt : Int32) (m_buffer : Nat → Int32) (m_fam : Nat → Int64) (m_limit : Int32) (m_next : Int32) (m_token : Int32) (v1 : Int32) (v2_40 : Int32) (m_error_40 : Int32) (m_errorAt_40 : Int32) : Option (Int32 × Int32 × Int32 × (Nat → Int64) × Int32 × Int32) := (if m_error_40 = (0 : Int32) then ob (p10_putPerson m_fam v2_40 (1 : Int32) v1.toInt64) (fun m_fam_52 => (p10_readChild_J55 m_beginsAt m_buffer m_limit m_next m_token m_error_40 m_errorAt_40 m_fam_52)) else (p10_readChild_J55 m_beginsAt m_buffer m_limit m_next m_token m_error_40 m_errorAt_40 m_fam))
def p10_readChild (m_limit : Int32) (m_next : Int32) (m_beginsAt : Int32) (m_token : Int32) (m_error : Int32) (m_errorAt : Int32) (m_buffer : Nat → Int32) (m_fam : Nat → Int64) (v1 : Int32) : Option (Int32 × Int32 × Int32 × (Nat → Int64) × Int32 × Int32) := ob (p10_readName m_next m_beginsAt m_token m_error m_errorAt m_buffer m_fam) (uc3 fun r1 m_error_1 m_errorAt_1 => (if m_error_1 = (0 : Int32) then ob (p10_parentsOf m_fam r1) (fun r15 => (if r15 = (-1 : Int32) then ob (p10_isAncestorOfBoth m_fam v1 r1) (fun r25 => (cond r25 (lb (p10_check m_beginsAt m_error_1 m_errorAt_1 false (5 : Int32)) (uc2 fun m_error_37 m_errorAt_37 => (p10_readChild_J40 m_beginsAt m_buffer m_fam m_limit m_next m_token v1 r1 m_error_37 m_errorAt_37))) (lb (p10_check m_beginsAt m_error_1 m_errorAt_1 true (5 : Int32)) (uc2 fun m_error_37 m_errorAt_37 => (p10_readChild_J40 m_beginsAt m_buffer m_fam m_limit m_next m_token v1 r1 m_error_37 m_errorAt_37))))) else lb (p10_check m_beginsAt m_error_1 m_errorAt_1 false (5 : Int32)) (uc2 fun m_error_37 m_errorAt_37 => (p10_readChild_J40 m_beginsAt m_buffer m_fam m_limit m_next m_token v1 r1 m_error_37 m_errorAt_37)))) else lb (p10_check m_beginsAt m_error_1 m_errorAt_1 true (5 : Int32)) (uc2 fun m_error_37 m_errorAt_37 => (p10_readChild_J40 m_beginsAt m_buffer m_fam m_limit m_next m_token v1 r1 m_error_37 m_errorAt_37))))
set_option maxHeartbeats 4000000 in
set_option maxRecDepth 100000 in
theorem c_X10_readChild (ad : Nat → Nat) (a_m_fam : Nat) (m_undoCount : Int32) (m_thrown : Int32) (m_hasSnapshot : Bool) (m_rows : Int32) (m_lineLength : Int32) (m_formattedLength : Int32) (m_bufferLength : Int32) (m_limit : Int32) (m_next : Int32) (m_beginsAt : Int32) (m_token : Int32) (m_error : Int32) (m_errorAt : Int32) (m_errorPosition : Int32) (m_nested : Int32) (m_codeCount : Int32) (m_buffer : Nat → Int32) (m_fam : Nat → Int64) (v1 : Int32) (m_beginsAt_9 : Int32) (m_error_9 : Int32) (m_errorAt_9 : Int32) (m_fam_9 : Nat → Int64) (m_next_9 : Int32) (m_token_9 : Int32) (hf : p10_readChild m_limit m_next m_beginsAt m_token m_error m_errorAt m_buffer m_fam v1 = some (m_beginsAt_9, m_error_9, m_errorAt_9, m_fam_9, m_next_9, m_token_9)) : gM l dC dI cI cJ cZ yX10_readChild cX10_readChild 3 none (4) (93) [.ref (ad 0), .int v1] [(ad 0, .inr (10, oM ad m_undoCount m_thrown m_hasSnapshot a_m_fam m_rows m_lineLength m_formattedLength m_bufferLength m_limit m_next m_beginsAt m_token m_error m_errorAt m_errorPosition m_nested m_codeCount)), ((ad 24), .inl (cI, 800, .inl m_buffer)), (a_m_fam, .inl (cJ, 130, .inr (.inl m_fam)))] [(ad 0, .inr (10, oM ad m_undoCount m_thrown m_hasSnapshot a_m_fam m_rows m_lineLength m_formattedLength m_bufferLength m_limit m_next_9 m_beginsAt_9 m_token_9 m_error_9 m_errorAt_9 m_errorPosition m_nested m_codeCount)), ((ad 24), .inl (cI, 800, .inl m_buffer)), (a_m_fam, .inl (cJ, 130, .inr (.inl m_fam_9)))] none := by
  refine g_start (own := RX10) (by decide +kernel) rfl (Nat.le_of_ble_eq_true rfl) ?_
  intro p e s m below meth c A ls S hr hlocks hE hP hD hS hA hl hin
  have hx := S.1
  have hb := S.2.1
  have hml := S.2.2.1
  have hown := S.2.2.2.1
  have htg : ∀ z ∈ gw, z.before ([.ref (ad 0), .int v1] : List Value).toArray s = true := fun w h => S.2.2.2.2 w (List.mem_cons_of_mem _ h)
  have hl : lv_has ls 3 [(0, .ref (ad 0)), (1, .int v1)] := hl
  have hS0 := hS
  obtain ⟨H, hH⟩ : ∃ H, H = s.heap := ⟨_, rfl⟩
  obtain ⟨locs, hlc⟩ : ∃ locs : List Loc, locs = [] := ⟨_, rfl⟩
  have hS : va_S A s.heap H locs := by rw [hH, hlc]; exact hS0
  have hP : va_P (dC, dI) vwCl [(ad 0, .inr (10, oM ad m_undoCount m_thrown m_hasSnapshot a_m_fam m_rows m_lineLength m_formattedLength m_bufferLength m_limit m_next m_beginsAt m_token m_error m_errorAt m_errorPosition m_nested m_codeCount)), ((ad 24), .inl (cI, 800, .inl m_buffer)), (a_m_fam, .inl (cJ, 130, .inr (.inl m_fam)))] H := by rw [hH]; exact hP
  suffices hgo : W p l e ({ frames := 4, cells := 0, slots := 0, locals := 93 }) s m ([.ref (ad 0), .int v1] : List Value).toArray below meth c H locs 0 0 (MQ below (gQ dC dI none A [(ad 0, .inr (10, oM ad m_undoCount m_thrown m_hasSnapshot a_m_fam m_rows m_lineLength m_formattedLength m_bufferLength m_limit m_next_9 m_beginsAt_9 m_token_9 m_error_9 m_errorAt_9 m_errorPosition m_nested m_codeCount)), ((ad 24), .inl (cI, 800, .inl m_buffer)), (a_m_fam, .inl (cJ, 130, .inr (.inl m_fam_9)))]) ([.ref (ad 0), .int v1] : List Value).toArray s 0 0 A) (F0 m 0 ls []) by rw [hH, hlc] at hgo; exact hgo
  rw [p10_readChild] at hf
  have J55 : ∀ (m_error_55 : Int32) (m_errorAt_55 : Int32) (m_fam_55 : Nat → Int64) (H : Heap) (locs : List Loc) (ls : Array Slot), p10_readChild_J55 m_beginsAt m_buffer m_limit m_next m_token m_error_55 m_errorAt_55 m_fam_55 = some (m_beginsAt_9, m_error_9, m_errorAt_9, m_fam_9, m_next_9, m_token_9) → va_P (dC, dI) vwCl [(ad 0, .inr (10, oM ad m_undoCount m_thrown m_hasSnapshot a_m_fam m_rows m_lineLength m_formattedLength m_bufferLength m_limit m_next m_beginsAt m_token m_error_55 m_errorAt_55 m_errorPosition m_nested m_codeCount)), ((ad 24), .inl (cI, 800, .inl m_buffer)), (a_m_fam, .inl (cJ, 130, .inr (.inl m_fam_55)))] H → va_D A [(ad 0, .inr (10, oM ad m_undoCount m_thrown m_hasSnapshot a_m_fam m_rows m_lineLength m_formattedLength m_bufferLength m_limit m_next m_beginsAt m_token m_error_55 m_errorAt_55 m_errorPosition m_nested m_codeCount)), ((ad 24), .inl (cI, 800, .inl m_buffer)), (a_m_fam, .inl (cJ, 130, .inr (.inl m_fam_55)))] → va_S A s.heap H locs → lv_has ls 3 [(0, .ref (ad 0))] → W p l e ({ frames := 4, cells := 0, slots := 0, locals := 93 }) s m ([.ref (ad 0), .int v1] : List Value).toArray below meth c H locs 0 0 (MQ below (gQ dC dI none A [(ad 0, .inr (10, oM ad m_undoCount m_thrown m_hasSnapshot a_m_fam m_rows m_lineLength m_formattedLength m_bufferLength m_limit m_next_9 m_beginsAt_9 m_token_9 m_error_9 m_errorAt_9 m_errorPosition m_nested m_codeCount)), ((ad 24), .inl (cI, 800, .inl m_buffer)), (a_m_fam, .inl (cJ, 130, .inr (.inl m_fam_9)))]) ([.ref (ad 0), .int v1] : List Value).toArray s 0 0 A) (F0 m 55 ls []) := by
    intro m_error_55 m_errorAt_55 m_fam_55 H locs ls hf hP hD hS hl
    rw [p10_readChild_J55] at hf
    refine lv_aload_n hx hb dX10_readChild_55 rfl (lv_at hl 0 rfl) ?_
    obtain ⟨⟨m_beginsAt_56, m_next_56, m_token_56⟩, h9, hf⟩ := ob_s hf
    have hf := uc3_e hf
    refine gcV (index := 419) S hE (c_X10_advance ad a_m_fam m_undoCount m_thrown m_hasSnapshot m_rows m_lineLength m_formattedLength m_bufferLength m_limit m_next m_beginsAt m_token m_error_55 m_errorAt_55 m_errorPosition m_nested m_codeCount m_buffer m_beginsAt_56 m_next_56 m_token_56 h9) mX10_advance tw1976 ⟨Nat.le_of_ble_eq_true rfl, Nat.le_of_ble_eq_true rfl⟩ hP hD hS hA ⟨Nat.zero_le _, Nat.zero_le _⟩ 0 10 rfl rfl rfl (wr := [(a_m_fam, .inl (cJ, 130, .inr (.inl m_fam_55)))]) [0, 1] [2] rfl rfl rfl rfl (by decide) (As := []) (rest := []) rfl hl.1 rfl (Nat.le_of_ble_eq_true rfl) dX10_readChild_56 (fun H locs hP hD hS => ?_)
    refine W.eq (g2 := F0 m 59 ls []) rfl ?_
    have hP : va_P (dC, dI) vwCl [(a_m_fam, .inl (cJ, 130, .inr (.inl m_fam_55))), (ad 0, .inr (10, oM ad m_undoCount m_thrown m_hasSnapshot a_m_fam m_rows m_lineLength m_formattedLength m_bufferLength m_limit m_next_56 m_beginsAt_56 m_token_56 m_error_55 m_errorAt_55 m_errorPosition m_nested m_codeCount)), ((ad 24), .inl (cI, 800, .inl m_buffer))] H := hP
    have hD : va_D A [(a_m_fam, .inl (cJ, 130, .inr (.inl m_fam_55))), (ad 0, .inr (10, oM ad m_undoCount m_thrown m_hasSnapshot a_m_fam m_rows m_lineLength m_formattedLength m_bufferLength m_limit m_next_56 m_beginsAt_56 m_token_56 m_error_55 m_errorAt_55 m_errorPosition m_nested m_codeCount)), ((ad 24), .inl (cI, 800, .inl m_buffer))] := hD
    cases hf
    exact g_vret S hr hlocks (hP.sub [1, 2, 0] rfl) (hD.sub [1, 2, 0] (by decide) rfl) hS dX10_readChild_59
  have J40 : ∀ (v2_40 : Int32) (m_error_40 : Int32) (m_errorAt_40 : Int32) (H : Heap) (locs : List Loc) (ls : Array Slot), p10_readChild_J40 m_beginsAt m_buffer m_fam m_limit m_next m_token v1 v2_40 m_error_40 m_errorAt_40 = some (m_beginsAt_9, m_error_9, m_errorAt_9, m_fam_9, m_next_9, m_token_9) → va_P (dC, dI) vwCl [(ad 0, .inr (10, oM ad m_undoCount m_thrown m_hasSnapshot a_m_fam m_rows m_lineLength m_formattedLength m_bufferLength m_limit m_next m_beginsAt m_token m_error_40 m_errorAt_40 m_errorPosition m_nested m_codeCount)), ((ad 24), .inl (cI, 800, .inl m_buffer)), (a_m_fam, .inl (cJ, 130, .inr (.inl m_fam)))] H → va_D A [(ad 0, .inr (10, oM ad m_undoCount m_thrown m_hasSnapshot a_m_fam m_rows m_lineLength m_formattedLength m_bufferLength m_limit m_next m_beginsAt m_token m_error_40 m_errorAt_40 m_errorPosition m_nested m_codeCount)), ((ad 24), .inl (cI, 800, .inl m_buffer)), (a_m_fam, .inl (cJ, 130, .inr (.inl m_fam)))] → va_S A s.heap H locs → lv_has ls 3 [(0, .ref (ad 0)), (1, .int v1), (2, .int v2_40)] → W p l e ({ frames := 4, cells := 0, slots := 0, locals := 93 }) s m ([.ref (ad 0), .int v1] : List Value).toArray below meth c H locs 0 0 (MQ below (gQ dC dI none A [(ad 0, .inr (10, oM ad m_undoCount m_thrown m_hasSnapshot a_m_fam m_rows m_lineLength m_formattedLength m_bufferLength m_limit m_next_9 m_beginsAt_9 m_token_9 m_error_9 m_errorAt_9 m_errorPosition m_nested m_codeCount)), ((ad 24), .inl (cI, 800, .inl m_buffer)), (a_m_fam, .inl (cJ, 130, .inr (.inl m_fam_9)))]) ([.ref (ad 0), .int v1] : List Value).toArray s 0 0 A) (F0 m 40 ls []) := by
    intro v2_40 m_error_40 m_errorAt_40 H locs ls hf hP hD hS hl
    rw [p10_readChild_J40] at hf
    refine lv_aload_n hx hb dX10_readChild_40 rfl (lv_at hl 0 rfl) ?_
    refine va_get (D := (dC, dI)) (ci := 10) (v := .int m_error_40) (C := RX10) (T := TX10) (N := 37) hx hb htg inX10 hown hE.1 hP 0 rfl rfl 29 (by decide) (htg _ tw1411) (fun _ h9 => h9) rfl dX10_readChild_41 ?_
    refine lv_if_ne (tgt := 55) hx hb dX10_readChild_44 (by decide) (fun h9 => ?_) (fun h9 => ?_)
    · have hf := itf h9 hf
      exact J55 m_error_40 m_errorAt_40 m_fam H locs ls hf hP hD hS (lv_sub hl [0] rfl)
    · have hf := itt h9 hf
      refine lv_aload_n hx hb dX10_readChild_47 rfl (lv_at hl 0 rfl) ?_
      refine lv_iload_n hx hb dX10_readChild_48 rfl (lv_at hl 2 rfl) ?_
      refine lv_iconst (v := 1) hx hb dX10_readChild_49 (by decide) ?_
      refine lv_iload_n hx hb dX10_readChild_50 rfl (lv_at hl 1 rfl) ?_
      refine lv_i2l hx hb dX10_readChild_51 rfl ?_
      obtain ⟨m_fam_52, h9, hf⟩ := ob_s hf
      refine gcV (index := 339) S hE (c_X10_putPerson ad a_m_fam m_undoCount m_thrown m_hasSnapshot m_rows m_lineLength m_formattedLength m_bufferLength m_limit m_next m_beginsAt m_token m_error_40 m_errorAt_40 m_errorPosition m_nested m_codeCount m_fam v2_40 (1 : Int32) v1.toInt64 m_fam_52 h9) mX10_putPerson tw1869 ⟨Nat.le_of_ble_eq_true rfl, Nat.le_of_ble_eq_true rfl⟩ hP hD hS hA ⟨Nat.zero_le _, Nat.zero_le _⟩ 0 10 rfl rfl rfl (wr := [((ad 24), .inl (cI, 800, .inl m_buffer))]) [0, 2] [1] rfl rfl rfl rfl (by decide) (As := [.int v2_40, .int (1 : Int32), .long v1.toInt64]) (rest := []) rfl hl.1 rfl (Nat.le_of_ble_eq_true rfl) dX10_readChild_52 (fun H locs hP hD hS => ?_)
      refine W.eq (g2 := F0 m 55 ls []) rfl ?_
      have hP : va_P (dC, dI) vwCl [((ad 24), .inl (cI, 800, .inl m_buffer)), (ad 0, .inr (10, oM ad m_undoCount m_thrown m_hasSnapshot a_m_fam m_rows m_lineLength m_formattedLength m_bufferLength m_limit m_next m_beginsAt m_token m_error_40 m_errorAt_40 m_errorPosition m_nested m_codeCount)), (a_m_fam, .inl (cJ, 130, .inr (.inl m_fam_52)))] H := hP
      have hD : va_D A [((ad 24), .inl (cI, 800, .inl m_buffer)), (ad 0, .inr (10, oM ad m_undoCount m_thrown m_hasSnapshot a_m_fam m_rows m_lineLength m_formattedLength m_bufferLength m_limit m_next m_beginsAt m_token m_error_40 m_errorAt_40 m_errorPosition m_nested m_codeCount)), (a_m_fam, .inl (cJ, 130, .inr (.inl m_fam_52)))] := hD
      exact J55 m_error_40 m_errorAt_40 m_fam_52 H locs ls hf (hP.sub [1, 0, 2] rfl) (hD.sub [1, 0, 2] (by decide) rfl) hS (lv_sub hl [0] rfl)
  refine lv_aload_n hx hb dX10_readChild_0 rfl (lv_at hl 0 rfl) ?_
  obtain ⟨⟨r1, m_error_1, m_errorAt_1⟩, h9, hf⟩ := ob_s hf
  have hf := uc3_e hf
  refine gcV (index := 444) S hE (c_X10_readName ad a_m_fam m_undoCount m_thrown m_hasSnapshot m_rows m_lineLength m_formattedLength m_bufferLength m_limit m_next m_beginsAt m_token m_error m_errorAt m_errorPosition m_nested m_codeCount m_buffer m_fam r1 m_error_1 m_errorAt_1 h9) mX10_readName tw2004 ⟨Nat.le_of_ble_eq_true rfl, Nat.le_of_ble_eq_true rfl⟩ hP hD hS hA ⟨Nat.zero_le _, Nat.zero_le _⟩ 0 10 rfl rfl rfl (wr := []) [0, 1, 2] [] rfl rfl rfl rfl (by decide) (As := []) (rest := []) rfl hl.1 rfl (Nat.le_of_ble_eq_true rfl) dX10_readChild_1 (fun H locs hP hD hS => ?_)
  refine W.eq (g2 := F0 m 4 ls [.int r1]) rfl ?_
  have hP : va_P (dC, dI) vwCl [(ad 0, .inr (10, oM ad m_undoCount m_thrown m_hasSnapshot a_m_fam m_rows m_lineLength m_formattedLength m_bufferLength m_limit m_next m_beginsAt m_token m_error_1 m_errorAt_1 m_errorPosition m_nested m_codeCount)), ((ad 24), .inl (cI, 800, .inl m_buffer)), (a_m_fam, .inl (cJ, 130, .inr (.inl m_fam)))] H := hP
  have hD : va_D A [(ad 0, .inr (10, oM ad m_undoCount m_thrown m_hasSnapshot a_m_fam m_rows m_lineLength m_formattedLength m_bufferLength m_limit m_next m_beginsAt m_token m_error_1 m_errorAt_1 m_errorPosition m_nested m_codeCount)), ((ad 24), .inl (cI, 800, .inl m_buffer)), (a_m_fam, .inl (cJ, 130, .inr (.inl m_fam)))] := hD
  refine lv_istore_n (lv' := [(2, .int r1), (0, .ref (ad 0)), (1, .int v1)]) hx hb dX10_readChild_4 rfl hl (by decide) rfl (fun ls hl => ?_)
  refine lv_aload_n hx hb dX10_readChild_5 rfl (lv_at hl 1 rfl) ?_
  refine lv_aload_n hx hb dX10_readChild_6 rfl (lv_at hl 1 rfl) ?_
  refine va_get (D := (dC, dI)) (ci := 10) (v := .int m_error_1) (C := RX10) (T := TX10) (N := 37) hx hb htg inX10 hown hE.1 hP 0 rfl rfl 29 (by decide) (htg _ tw1411) (fun _ h9 => h9) rfl dX10_readChild_7 ?_
  refine lv_if_ne (tgt := 31) hx hb dX10_readChild_10 (by decide) (fun h9 => ?_) (fun h9 => ?_)
  · have hf := itf h9 hf
    refine lv_iconst (v := 1) hx hb dX10_readChild_31 (by decide) ?_
    refine lv_goto (tgt := 36) hx hb dX10_readChild_32 (by decide) ?_
    refine lv_iconst (v := 5) hx hb dX10_readChild_36 (by decide) ?_
    obtain ⟨m_error_37, m_errorAt_37, h9⟩ : ∃ m_error_37 m_errorAt_37, p10_check m_beginsAt m_error_1 m_errorAt_1 true (5 : Int32) = (m_error_37, m_errorAt_37) := ⟨_, _, rfl⟩
    have hf := uc2_e (lb_e h9.symm hf)
    refine gcV (index := 415) S hE (c_X10_check ad a_m_fam m_undoCount m_thrown m_hasSnapshot m_rows m_lineLength m_formattedLength m_bufferLength m_limit m_next m_beginsAt m_token m_error_1 m_errorAt_1 m_errorPosition m_nested m_codeCount true (5 : Int32) m_error_37 m_errorAt_37 h9) mX10_check tw1968 ⟨Nat.le_of_ble_eq_true rfl, Nat.le_of_ble_eq_true rfl⟩ hP hD hS hA ⟨Nat.zero_le _, Nat.zero_le _⟩ 0 10 rfl rfl rfl (wr := [((ad 24), .inl (cI, 800, .inl m_buffer)), (a_m_fam, .inl (cJ, 130, .inr (.inl m_fam)))]) [0] [1, 2] rfl rfl rfl rfl (by decide) (As := [.int (bI true), .int (5 : Int32)]) (rest := []) rfl hl.1 rfl (Nat.le_of_ble_eq_true rfl) dX10_readChild_37 (fun H locs hP hD hS => ?_)
    refine W.eq (g2 := F0 m 40 ls []) rfl ?_
    have hP : va_P (dC, dI) vwCl [((ad 24), .inl (cI, 800, .inl m_buffer)), (a_m_fam, .inl (cJ, 130, .inr (.inl m_fam))), (ad 0, .inr (10, oM ad m_undoCount m_thrown m_hasSnapshot a_m_fam m_rows m_lineLength m_formattedLength m_bufferLength m_limit m_next m_beginsAt m_token m_error_37 m_errorAt_37 m_errorPosition m_nested m_codeCount))] H := hP
    have hD : va_D A [((ad 24), .inl (cI, 800, .inl m_buffer)), (a_m_fam, .inl (cJ, 130, .inr (.inl m_fam))), (ad 0, .inr (10, oM ad m_undoCount m_thrown m_hasSnapshot a_m_fam m_rows m_lineLength m_formattedLength m_bufferLength m_limit m_next m_beginsAt m_token m_error_37 m_errorAt_37 m_errorPosition m_nested m_codeCount))] := hD
    exact J40 r1 m_error_37 m_errorAt_37 H locs ls hf (hP.sub [2, 0, 1] rfl) (hD.sub [2, 0, 1] (by decide) rfl) hS (lv_sub hl [1, 2, 0] rfl)
  · have hf := itt h9 hf
    refine lv_aload_n hx hb dX10_readChild_13 rfl (lv_at hl 1 rfl) ?_
    refine lv_iload_n hx hb dX10_readChild_14 rfl (lv_at hl 0 rfl) ?_
    obtain ⟨r15, h9, hf⟩ := ob_s hf
    refine gcV (index := 117) S hE (c_X10_parentsOf ad a_m_fam m_undoCount m_thrown m_hasSnapshot m_rows m_lineLength m_formattedLength m_bufferLength m_limit m_next m_beginsAt m_token m_error_1 m_errorAt_1 m_errorPosition m_nested m_codeCount m_fam r1 r15 h9) mX10_parentsOf tw1515 ⟨Nat.le_of_ble_eq_true rfl, Nat.le_of_ble_eq_true rfl⟩ hP hD hS hA ⟨Nat.zero_le _, Nat.zero_le _⟩ 0 10 rfl rfl rfl (wr := [((ad 24), .inl (cI, 800, .inl m_buffer))]) [0, 2] [1] rfl rfl rfl rfl (by decide) (As := [.int r1]) (rest := [.ref (ad 0)]) rfl hl.1 rfl (Nat.le_of_ble_eq_true rfl) dX10_readChild_15 (fun H locs hP hD hS => ?_)
    refine W.eq (g2 := F0 m 18 ls [.int r15, .ref (ad 0)]) rfl ?_
    have hP : va_P (dC, dI) vwCl [((ad 24), .inl (cI, 800, .inl m_buffer)), (ad 0, .inr (10, oM ad m_undoCount m_thrown m_hasSnapshot a_m_fam m_rows m_lineLength m_formattedLength m_bufferLength m_limit m_next m_beginsAt m_token m_error_1 m_errorAt_1 m_errorPosition m_nested m_codeCount)), (a_m_fam, .inl (cJ, 130, .inr (.inl m_fam)))] H := hP
    have hD : va_D A [((ad 24), .inl (cI, 800, .inl m_buffer)), (ad 0, .inr (10, oM ad m_undoCount m_thrown m_hasSnapshot a_m_fam m_rows m_lineLength m_formattedLength m_bufferLength m_limit m_next m_beginsAt m_token m_error_1 m_errorAt_1 m_errorPosition m_nested m_codeCount)), (a_m_fam, .inl (cJ, 130, .inr (.inl m_fam)))] := hD
    refine lv_iconst (v := -1) hx hb dX10_readChild_18 (by decide) ?_
    refine lv_icmp_ne (tgt := 35) hx hb dX10_readChild_19 (by decide) (fun h9 => ?_) (fun h9 => ?_)
    · have hf := itf h9 hf
      refine lv_iconst (v := 0) hx hb dX10_readChild_35 (by decide) ?_
      refine lv_iconst (v := 5) hx hb dX10_readChild_36 (by decide) ?_
      obtain ⟨m_error_37, m_errorAt_37, h9⟩ : ∃ m_error_37 m_errorAt_37, p10_check m_beginsAt m_error_1 m_errorAt_1 false (5 : Int32) = (m_error_37, m_errorAt_37) := ⟨_, _, rfl⟩
      have hf := uc2_e (lb_e h9.symm hf)
      refine gcV (index := 415) S hE (c_X10_check ad a_m_fam m_undoCount m_thrown m_hasSnapshot m_rows m_lineLength m_formattedLength m_bufferLength m_limit m_next m_beginsAt m_token m_error_1 m_errorAt_1 m_errorPosition m_nested m_codeCount false (5 : Int32) m_error_37 m_errorAt_37 h9) mX10_check tw1968 ⟨Nat.le_of_ble_eq_true rfl, Nat.le_of_ble_eq_true rfl⟩ hP hD hS hA ⟨Nat.zero_le _, Nat.zero_le _⟩ 1 10 rfl rfl rfl (wr := [((ad 24), .inl (cI, 800, .inl m_buffer)), (a_m_fam, .inl (cJ, 130, .inr (.inl m_fam)))]) [1] [0, 2] rfl rfl rfl rfl (by decide) (As := [.int (bI false), .int (5 : Int32)]) (rest := []) rfl hl.1 rfl (Nat.le_of_ble_eq_true rfl) dX10_readChild_37 (fun H locs hP hD hS => ?_)
      refine W.eq (g2 := F0 m 40 ls []) rfl ?_
      have hP : va_P (dC, dI) vwCl [((ad 24), .inl (cI, 800, .inl m_buffer)), (a_m_fam, .inl (cJ, 130, .inr (.inl m_fam))), (ad 0, .inr (10, oM ad m_undoCount m_thrown m_hasSnapshot a_m_fam m_rows m_lineLength m_formattedLength m_bufferLength m_limit m_next m_beginsAt m_token m_error_37 m_errorAt_37 m_errorPosition m_nested m_codeCount))] H := hP
      have hD : va_D A [((ad 24), .inl (cI, 800, .inl m_buffer)), (a_m_fam, .inl (cJ, 130, .inr (.inl m_fam))), (ad 0, .inr (10, oM ad m_undoCount m_thrown m_hasSnapshot a_m_fam m_rows m_lineLength m_formattedLength m_bufferLength m_limit m_next m_beginsAt m_token m_error_37 m_errorAt_37 m_errorPosition m_nested m_codeCount))] := hD
      exact J40 r1 m_error_37 m_errorAt_37 H locs ls hf (hP.sub [2, 0, 1] rfl) (hD.sub [2, 0, 1] (by decide) rfl) hS (lv_sub hl [1, 2, 0] rfl)
    · have hf := itt h9 hf
      refine lv_aload_n hx hb dX10_readChild_22 rfl (lv_at hl 1 rfl) ?_
      refine lv_iload_n hx hb dX10_readChild_23 rfl (lv_at hl 2 rfl) ?_
      refine lv_iload_n hx hb dX10_readChild_24 rfl (lv_at hl 0 rfl) ?_
      obtain ⟨r25, h9, hf⟩ := ob_s hf
      refine gcV (index := 336) S hE (c_X10_isAncestorOfBoth ad a_m_fam m_undoCount m_thrown m_hasSnapshot m_rows m_lineLength m_formattedLength m_bufferLength m_limit m_next m_beginsAt m_token m_error_1 m_errorAt_1 m_errorPosition m_nested m_codeCount m_fam v1 r1 r25 h9) mX10_isAncestorOfBoth tw1865 ⟨Nat.le_of_ble_eq_true rfl, Nat.le_of_ble_eq_true rfl⟩ hP hD hS hA ⟨Nat.zero_le _, Nat.zero_le _⟩ 1 10 rfl rfl rfl (wr := [((ad 24), .inl (cI, 800, .inl m_buffer))]) [1, 2] [0] rfl rfl rfl rfl (by decide) (As := [.int v1, .int r1]) (rest := [.ref (ad 0)]) rfl hl.1 rfl (Nat.le_of_ble_eq_true rfl) dX10_readChild_25 (fun H locs hP hD hS => ?_)
      refine W.eq (g2 := F0 m 28 ls [.int (bI r25), .ref (ad 0)]) rfl ?_
      have hP : va_P (dC, dI) vwCl [((ad 24), .inl (cI, 800, .inl m_buffer)), (ad 0, .inr (10, oM ad m_undoCount m_thrown m_hasSnapshot a_m_fam m_rows m_lineLength m_formattedLength m_bufferLength m_limit m_next m_beginsAt m_token m_error_1 m_errorAt_1 m_errorPosition m_nested m_codeCount)), (a_m_fam, .inl (cJ, 130, .inr (.inl m_fam)))] H := hP
      have hD : va_D A [((ad 24), .inl (cI, 800, .inl m_buffer)), (ad 0, .inr (10, oM ad m_undoCount m_thrown m_hasSnapshot a_m_fam m_rows m_lineLength m_formattedLength m_bufferLength m_limit m_next m_beginsAt m_token m_error_1 m_errorAt_1 m_errorPosition m_nested m_codeCount)), (a_m_fam, .inl (cJ, 130, .inr (.inl m_fam)))] := hD
      refine lv_if_ne (tgt := 35) hx hb dX10_readChild_28 (by decide) (fun h9 => ?_) (fun h9 => ?_)
      · have hf := ctt (bI_1 h9) hf
        refine lv_iconst (v := 0) hx hb dX10_readChild_35 (by decide) ?_
        refine lv_iconst (v := 5) hx hb dX10_readChild_36 (by decide) ?_
        obtain ⟨m_error_37, m_errorAt_37, h9⟩ : ∃ m_error_37 m_errorAt_37, p10_check m_beginsAt m_error_1 m_errorAt_1 false (5 : Int32) = (m_error_37, m_errorAt_37) := ⟨_, _, rfl⟩
        have hf := uc2_e (lb_e h9.symm hf)
        refine gcV (index := 415) S hE (c_X10_check ad a_m_fam m_undoCount m_thrown m_hasSnapshot m_rows m_lineLength m_formattedLength m_bufferLength m_limit m_next m_beginsAt m_token m_error_1 m_errorAt_1 m_errorPosition m_nested m_codeCount false (5 : Int32) m_error_37 m_errorAt_37 h9) mX10_check tw1968 ⟨Nat.le_of_ble_eq_true rfl, Nat.le_of_ble_eq_true rfl⟩ hP hD hS hA ⟨Nat.zero_le _, Nat.zero_le _⟩ 1 10 rfl rfl rfl (wr := [((ad 24), .inl (cI, 800, .inl m_buffer)), (a_m_fam, .inl (cJ, 130, .inr (.inl m_fam)))]) [1] [0, 2] rfl rfl rfl rfl (by decide) (As := [.int (bI false), .int (5 : Int32)]) (rest := []) rfl hl.1 rfl (Nat.le_of_ble_eq_true rfl) dX10_readChild_37 (fun H locs hP hD hS => ?_)
        refine W.eq (g2 := F0 m 40 ls []) rfl ?_
        have hP : va_P (dC, dI) vwCl [((ad 24), .inl (cI, 800, .inl m_buffer)), (a_m_fam, .inl (cJ, 130, .inr (.inl m_fam))), (ad 0, .inr (10, oM ad m_undoCount m_thrown m_hasSnapshot a_m_fam m_rows m_lineLength m_formattedLength m_bufferLength m_limit m_next m_beginsAt m_token m_error_37 m_errorAt_37 m_errorPosition m_nested m_codeCount))] H := hP
        have hD : va_D A [((ad 24), .inl (cI, 800, .inl m_buffer)), (a_m_fam, .inl (cJ, 130, .inr (.inl m_fam))), (ad 0, .inr (10, oM ad m_undoCount m_thrown m_hasSnapshot a_m_fam m_rows m_lineLength m_formattedLength m_bufferLength m_limit m_next m_beginsAt m_token m_error_37 m_errorAt_37 m_errorPosition m_nested m_codeCount))] := hD
        exact J40 r1 m_error_37 m_errorAt_37 H locs ls hf (hP.sub [2, 0, 1] rfl) (hD.sub [2, 0, 1] (by decide) rfl) hS (lv_sub hl [1, 2, 0] rfl)
      · have hf := ctf (bI_0 h9) hf
        refine lv_iconst (v := 1) hx hb dX10_readChild_31 (by decide) ?_
        refine lv_goto (tgt := 36) hx hb dX10_readChild_32 (by decide) ?_
        refine lv_iconst (v := 5) hx hb dX10_readChild_36 (by decide) ?_
        obtain ⟨m_error_37, m_errorAt_37, h9⟩ : ∃ m_error_37 m_errorAt_37, p10_check m_beginsAt m_error_1 m_errorAt_1 true (5 : Int32) = (m_error_37, m_errorAt_37) := ⟨_, _, rfl⟩
        have hf := uc2_e (lb_e h9.symm hf)
        refine gcV (index := 415) S hE (c_X10_check ad a_m_fam m_undoCount m_thrown m_hasSnapshot m_rows m_lineLength m_formattedLength m_bufferLength m_limit m_next m_beginsAt m_token m_error_1 m_errorAt_1 m_errorPosition m_nested m_codeCount true (5 : Int32) m_error_37 m_errorAt_37 h9) mX10_check tw1968 ⟨Nat.le_of_ble_eq_true rfl, Nat.le_of_ble_eq_true rfl⟩ hP hD hS hA ⟨Nat.zero_le _, Nat.zero_le _⟩ 1 10 rfl rfl rfl (wr := [((ad 24), .inl (cI, 800, .inl m_buffer)), (a_m_fam, .inl (cJ, 130, .inr (.inl m_fam)))]) [1] [0, 2] rfl rfl rfl rfl (by decide) (As := [.int (bI true), .int (5 : Int32)]) (rest := []) rfl hl.1 rfl (Nat.le_of_ble_eq_true rfl) dX10_readChild_37 (fun H locs hP hD hS => ?_)
        refine W.eq (g2 := F0 m 40 ls []) rfl ?_
        have hP : va_P (dC, dI) vwCl [((ad 24), .inl (cI, 800, .inl m_buffer)), (a_m_fam, .inl (cJ, 130, .inr (.inl m_fam))), (ad 0, .inr (10, oM ad m_undoCount m_thrown m_hasSnapshot a_m_fam m_rows m_lineLength m_formattedLength m_bufferLength m_limit m_next m_beginsAt m_token m_error_37 m_errorAt_37 m_errorPosition m_nested m_codeCount))] H := hP
        have hD : va_D A [((ad 24), .inl (cI, 800, .inl m_buffer)), (a_m_fam, .inl (cJ, 130, .inr (.inl m_fam))), (ad 0, .inr (10, oM ad m_undoCount m_thrown m_hasSnapshot a_m_fam m_rows m_lineLength m_formattedLength m_bufferLength m_limit m_next m_beginsAt m_token m_error_37 m_errorAt_37 m_errorPosition m_nested m_codeCount))] := hD
        exact J40 r1 m_error_37 m_errorAt_37 H locs ls hf (hP.sub [2, 0, 1] rfl) (hD.sub [2, 0, 1] (by decide) rfl) hS (lv_sub hl [1, 2, 0] rfl)
def p10_readUnion_J125 (m_next_125 : Int32) (m_beginsAt_125 : Int32) (m_token_125 : Int32) (m_error_125 : Int32) (m_errorAt_125 : Int32) (m_fam_125 : Nat → Int64) : Option (Int32 × Int32 × Int32 × (Nat → Int64) × Int32 × Int32) := some (m_beginsAt_125, m_error_125, m_errorAt_125, m_fam_125, m_next_125, m_token_125)
def p10_readUnion_L97_B (m_buffer : Nat → Int32) (m_limit : Int32) (k97 : Int32 → Int32 → Int32 → (Nat → Int64) → Int32 → Int32 → Option (Int32 × Int32 × Int32 × (Nat → Int64) × Int32 × Int32)) (m_beginsAt_97 : Int32) (m_error_97 : Int32) (m_errorAt_97 : Int32) (m_fam_97 : Nat → Int64) (m_next_97 : Int32) (m_token_97 : Int32) : Option (Int32 × Int32 × Int32 × (Nat → Int64) × Int32 × Int32) := (if m_error_97 = (0 : Int32) then (if m_token_97 = (1 : Int32) then ob (p10_unions m_fam_97) (fun r114 => ob (p10_readChild m_limit m_next_97 m_beginsAt_97 m_token_97 m_error_97 m_errorAt_97 m_buffer m_fam_97 (r114 - (1 : Int32))) (uc6 fun m_beginsAt_119 m_error_119 m_errorAt_119 m_fam_119 m_next_119 m_token_119 => (k97 m_beginsAt_119 m_error_119 m_errorAt_119 m_fam_119 m_next_119 m_token_119))) else some (m_beginsAt_97, m_error_97, m_errorAt_97, m_fam_97, m_next_97, m_token_97)) else some (m_beginsAt_97, m_error_97, m_errorAt_97, m_fam_97, m_next_97, m_token_97))
def p10_readUnion_L97 (m_buffer : Nat → Int32) (m_limit : Int32) : Nat → Int32 → Int32 → Int32 → (Nat → Int64) → Int32 → Int32 → Option (Int32 × Int32 × Int32 × (Nat → Int64) × Int32 × Int32)
  | 0, _, _, _, _, _, _ => none
  | n+1, m_beginsAt_97, m_error_97, m_errorAt_97, m_fam_97, m_next_97, m_token_97 => p10_readUnion_L97_B m_buffer m_limit (p10_readUnion_L97 m_buffer m_limit n) m_beginsAt_97 m_error_97 m_errorAt_97 m_fam_97 m_next_97 m_token_97
def p10_readUnion_J69 (m_buffer : Nat → Int32) (m_fam : Nat → Int64) (m_limit : Int32) (v1_69 : Int32) (v2_69 : Int32) (m_next_69 : Int32) (m_beginsAt_69 : Int32) (m_token_69 : Int32) (m_error_69 : Int32) (m_errorAt_69 : Int32) : Option (Int32 × Int32 × Int32 × (Nat → Int64) × Int32 × Int32) := ob (p10_advance m_limit m_next_69 m_beginsAt_69 m_token_69 m_error_69 m_buffer) (uc3 fun m_beginsAt_70 m_next_70 m_token_70 => ob (p10_readNumber m_limit m_next_70 m_beginsAt_70 m_token_70 m_error_69 m_errorAt_69 m_buffer (0 : Int32) (2100 : Int32)) (uc6 fun r78 m_beginsAt_78 m_error_78 m_errorAt_78 m_next_78 m_token_78 => (if m_error_78 = (0 : Int32) then ob (p10_addUnion m_fam v1_69 v2_69 r78) (fun m_fam_94 => (ob (p10_readUnion_L97 m_buffer m_limit FU m_beginsAt_78 m_error_78 m_errorAt_78 m_fam_94 m_next_78 m_token_78) (uc6 fun m_beginsAt_x97 m_error_x97 m_errorAt_x97 m_fam_x97 m_next_x97 m_token_x97 => p10_readUnion_J125 m_next_x97 m_beginsAt_x97 m_token_x97 m_error_x97 m_errorAt_x97 m_fam_x97))) else some (m_beginsAt_78, m_error_78, m_errorAt_78, m_fam, m_next_78, m_token_78))))
def p10_readUnion_J19 (m_beginsAt : Int32) (m_buffer : Nat → Int32) (m_fam : Nat → Int64) (m_limit : Int32) (m_next : Int32) (m_token : Int32) (m_error_19 : Int32) (m_errorAt_19 : Int32) : Option (Int32 × Int32 × Int32 × (Nat → Int64) × Int32 × Int32) := ob (p10_advance m_limit m_next m_beginsAt m_token m_error_19 m_buffer) (uc3 fun m_beginsAt_20 m_next_20 m_token_20 => ob (p10_readName m_next_20 m_beginsAt_20 m_token_20 m_error_19 m_errorAt_19 m_buffer m_fam) (uc3 fun r24 m_error_24 m_errorAt_24 => ob (p10_advance m_limit m_next_20 m_beginsAt_20 m_token_20 m_error_24 m_buffer) (uc3 fun m_beginsAt_29 m_next_29 m_token_29 => ob (p10_readName m_next_29 m_beginsAt_29 m_token_29 m_error_24 m_errorAt_24 m_buffer m_fam) (uc3 fun r33 m_error_33 m_errorAt_33 => (if m_error_33 = (0 : Int32) then (if r24 = r33 then lb (p10_check m_beginsAt_29 m_error_33 m_errorAt_33 false (5 : Int32)) (uc2 fun m_error_66 m_errorAt_66 => (p10_readUnion_J69 m_buffer m_fam m_limit r24 r33 m_next_29 m_beginsAt_29 m_token_29 m_error_66 m_errorAt_66)) else ob (p10_unionOf m_fam r24 r33) (fun r53 => (if r53 = (-1 : Int32) then lb (p10_check m_beginsAt_29 m_error_33 m_errorAt_33 true (5 : Int32)) (uc2 fun m_error_66 m_errorAt_66 => (p10_readUnion_J69 m_buffer m_fam m_limit r24 r33 m_next_29 m_beginsAt_29 m_token_29 m_error_66 m_errorAt_66)) else lb (p10_check m_beginsAt_29 m_error_33 m_errorAt_33 false (5 : Int32)) (uc2 fun m_error_66 m_errorAt_66 => (p10_readUnion_J69 m_buffer m_fam m_limit r24 r33 m_next_29 m_beginsAt_29 m_token_29 m_error_66 m_errorAt_66))))) else lb (p10_check m_beginsAt_29 m_error_33 m_errorAt_33 true (5 : Int32)) (uc2 fun m_error_66 m_errorAt_66 => (p10_readUnion_J69 m_buffer m_fam m_limit r24 r33 m_next_29 m_beginsAt_29 m_token_29 m_error_66 m_errorAt_66)))))))
def p10_readUnion (m_limit : Int32) (m_next : Int32) (m_beginsAt : Int32) (m_token : Int32) (m_error : Int32) (m_errorAt : Int32) (m_buffer : Nat → Int32) (m_fam : Nat → Int64) : Option (Int32 × Int32 × Int32 × (Nat → Int64) × Int32 × Int32) := ob (p10_unions m_fam) (fun r2 => (if (12 : Int32) ≤ r2 then lb (p10_check m_beginsAt m_error m_errorAt false (3 : Int32)) (uc2 fun m_error_16 m_errorAt_16 => (p10_readUnion_J19 m_beginsAt m_buffer m_fam m_limit m_next m_token m_error_16 m_errorAt_16)) else lb (p10_check m_beginsAt m_error m_errorAt true (3 : Int32)) (uc2 fun m_error_16 m_errorAt_16 => (p10_readUnion_J19 m_beginsAt m_buffer m_fam m_limit m_next m_token m_error_16 m_errorAt_16))))
set_option maxHeartbeats 4000000 in
set_option maxRecDepth 100000 in
theorem c_X10_readUnion (ad : Nat → Nat) (a_m_fam : Nat) (m_undoCount : Int32) (m_thrown : Int32) (m_hasSnapshot : Bool) (m_rows : Int32) (m_lineLength : Int32) (m_formattedLength : Int32) (m_bufferLength : Int32) (m_limit : Int32) (m_next : Int32) (m_beginsAt : Int32) (m_token : Int32) (m_error : Int32) (m_errorAt : Int32) (m_errorPosition : Int32) (m_nested : Int32) (m_codeCount : Int32) (m_buffer : Nat → Int32) (m_fam : Nat → Int64) (m_beginsAt_9 : Int32) (m_error_9 : Int32) (m_errorAt_9 : Int32) (m_fam_9 : Nat → Int64) (m_next_9 : Int32) (m_token_9 : Int32) (hf : p10_readUnion m_limit m_next m_beginsAt m_token m_error m_errorAt m_buffer m_fam = some (m_beginsAt_9, m_error_9, m_errorAt_9, m_fam_9, m_next_9, m_token_9)) : gM l dC dI cI cJ cZ yX10_readUnion cX10_readUnion 4 none (5) (115) [.ref (ad 0)] [(ad 0, .inr (10, oM ad m_undoCount m_thrown m_hasSnapshot a_m_fam m_rows m_lineLength m_formattedLength m_bufferLength m_limit m_next m_beginsAt m_token m_error m_errorAt m_errorPosition m_nested m_codeCount)), ((ad 24), .inl (cI, 800, .inl m_buffer)), (a_m_fam, .inl (cJ, 130, .inr (.inl m_fam)))] [(ad 0, .inr (10, oM ad m_undoCount m_thrown m_hasSnapshot a_m_fam m_rows m_lineLength m_formattedLength m_bufferLength m_limit m_next_9 m_beginsAt_9 m_token_9 m_error_9 m_errorAt_9 m_errorPosition m_nested m_codeCount)), ((ad 24), .inl (cI, 800, .inl m_buffer)), (a_m_fam, .inl (cJ, 130, .inr (.inl m_fam_9)))] none := by
  refine g_start (own := RX10) (by decide +kernel) rfl (Nat.le_of_ble_eq_true rfl) ?_
  intro p e s m below meth c A ls S hr hlocks hE hP hD hS hA hl hin
  have hx := S.1
  have hb := S.2.1
  have hml := S.2.2.1
  have hown := S.2.2.2.1
  have htg : ∀ z ∈ gw, z.before ([.ref (ad 0)] : List Value).toArray s = true := fun w h => S.2.2.2.2 w (List.mem_cons_of_mem _ h)
  have hl : lv_has ls 4 [(0, .ref (ad 0))] := hl
  have hS0 := hS
  obtain ⟨H, hH⟩ : ∃ H, H = s.heap := ⟨_, rfl⟩
  obtain ⟨locs, hlc⟩ : ∃ locs : List Loc, locs = [] := ⟨_, rfl⟩
  have hS : va_S A s.heap H locs := by rw [hH, hlc]; exact hS0
  have hP : va_P (dC, dI) vwCl [(ad 0, .inr (10, oM ad m_undoCount m_thrown m_hasSnapshot a_m_fam m_rows m_lineLength m_formattedLength m_bufferLength m_limit m_next m_beginsAt m_token m_error m_errorAt m_errorPosition m_nested m_codeCount)), ((ad 24), .inl (cI, 800, .inl m_buffer)), (a_m_fam, .inl (cJ, 130, .inr (.inl m_fam)))] H := by rw [hH]; exact hP
  suffices hgo : W p l e ({ frames := 5, cells := 0, slots := 0, locals := 115 }) s m ([.ref (ad 0)] : List Value).toArray below meth c H locs 0 0 (MQ below (gQ dC dI none A [(ad 0, .inr (10, oM ad m_undoCount m_thrown m_hasSnapshot a_m_fam m_rows m_lineLength m_formattedLength m_bufferLength m_limit m_next_9 m_beginsAt_9 m_token_9 m_error_9 m_errorAt_9 m_errorPosition m_nested m_codeCount)), ((ad 24), .inl (cI, 800, .inl m_buffer)), (a_m_fam, .inl (cJ, 130, .inr (.inl m_fam_9)))]) ([.ref (ad 0)] : List Value).toArray s 0 0 A) (F0 m 0 ls []) by rw [hH, hlc] at hgo; exact hgo
  rw [p10_readUnion] at hf
  have J125 : ∀ (m_next_125 : Int32) (m_beginsAt_125 : Int32) (m_token_125 : Int32) (m_error_125 : Int32) (m_errorAt_125 : Int32) (m_fam_125 : Nat → Int64) (H : Heap) (locs : List Loc) (ls : Array Slot), p10_readUnion_J125 m_next_125 m_beginsAt_125 m_token_125 m_error_125 m_errorAt_125 m_fam_125 = some (m_beginsAt_9, m_error_9, m_errorAt_9, m_fam_9, m_next_9, m_token_9) → va_P (dC, dI) vwCl [(ad 0, .inr (10, oM ad m_undoCount m_thrown m_hasSnapshot a_m_fam m_rows m_lineLength m_formattedLength m_bufferLength m_limit m_next_125 m_beginsAt_125 m_token_125 m_error_125 m_errorAt_125 m_errorPosition m_nested m_codeCount)), ((ad 24), .inl (cI, 800, .inl m_buffer)), (a_m_fam, .inl (cJ, 130, .inr (.inl m_fam_125)))] H → va_D A [(ad 0, .inr (10, oM ad m_undoCount m_thrown m_hasSnapshot a_m_fam m_rows m_lineLength m_formattedLength m_bufferLength m_limit m_next_125 m_beginsAt_125 m_token_125 m_error_125 m_errorAt_125 m_errorPosition m_nested m_codeCount)), ((ad 24), .inl (cI, 800, .inl m_buffer)), (a_m_fam, .inl (cJ, 130, .inr (.inl m_fam_125)))] → va_S A s.heap H locs → lv_has ls 4 [] → W p l e ({ frames := 5, cells := 0, slots := 0, locals := 115 }) s m ([.ref (ad 0)] : List Value).toArray below meth c H locs 0 0 (MQ below (gQ dC dI none A [(ad 0, .inr (10, oM ad m_undoCount m_thrown m_hasSnapshot a_m_fam m_rows m_lineLength m_formattedLength m_bufferLength m_limit m_next_9 m_beginsAt_9 m_token_9 m_error_9 m_errorAt_9 m_errorPosition m_nested m_codeCount)), ((ad 24), .inl (cI, 800, .inl m_buffer)), (a_m_fam, .inl (cJ, 130, .inr (.inl m_fam_9)))]) ([.ref (ad 0)] : List Value).toArray s 0 0 A) (F0 m 125 ls []) := by
    intro m_next_125 m_beginsAt_125 m_token_125 m_error_125 m_errorAt_125 m_fam_125 H locs ls hf hP hD hS hl
    rw [p10_readUnion_J125] at hf
    cases hf
    exact g_vret S hr hlocks hP hD hS dX10_readUnion_125
  have J69 : ∀ (v1_69 : Int32) (v2_69 : Int32) (m_next_69 : Int32) (m_beginsAt_69 : Int32) (m_token_69 : Int32) (m_error_69 : Int32) (m_errorAt_69 : Int32) (H : Heap) (locs : List Loc) (ls : Array Slot), p10_readUnion_J69 m_buffer m_fam m_limit v1_69 v2_69 m_next_69 m_beginsAt_69 m_token_69 m_error_69 m_errorAt_69 = some (m_beginsAt_9, m_error_9, m_errorAt_9, m_fam_9, m_next_9, m_token_9) → va_P (dC, dI) vwCl [(ad 0, .inr (10, oM ad m_undoCount m_thrown m_hasSnapshot a_m_fam m_rows m_lineLength m_formattedLength m_bufferLength m_limit m_next_69 m_beginsAt_69 m_token_69 m_error_69 m_errorAt_69 m_errorPosition m_nested m_codeCount)), ((ad 24), .inl (cI, 800, .inl m_buffer)), (a_m_fam, .inl (cJ, 130, .inr (.inl m_fam)))] H → va_D A [(ad 0, .inr (10, oM ad m_undoCount m_thrown m_hasSnapshot a_m_fam m_rows m_lineLength m_formattedLength m_bufferLength m_limit m_next_69 m_beginsAt_69 m_token_69 m_error_69 m_errorAt_69 m_errorPosition m_nested m_codeCount)), ((ad 24), .inl (cI, 800, .inl m_buffer)), (a_m_fam, .inl (cJ, 130, .inr (.inl m_fam)))] → va_S A s.heap H locs → lv_has ls 4 [(0, .ref (ad 0)), (1, .int v1_69), (2, .int v2_69)] → W p l e ({ frames := 5, cells := 0, slots := 0, locals := 115 }) s m ([.ref (ad 0)] : List Value).toArray below meth c H locs 0 0 (MQ below (gQ dC dI none A [(ad 0, .inr (10, oM ad m_undoCount m_thrown m_hasSnapshot a_m_fam m_rows m_lineLength m_formattedLength m_bufferLength m_limit m_next_9 m_beginsAt_9 m_token_9 m_error_9 m_errorAt_9 m_errorPosition m_nested m_codeCount)), ((ad 24), .inl (cI, 800, .inl m_buffer)), (a_m_fam, .inl (cJ, 130, .inr (.inl m_fam_9)))]) ([.ref (ad 0)] : List Value).toArray s 0 0 A) (F0 m 69 ls []) := by
    intro v1_69 v2_69 m_next_69 m_beginsAt_69 m_token_69 m_error_69 m_errorAt_69 H locs ls hf hP hD hS hl
    rw [p10_readUnion_J69] at hf
    refine lv_aload_n hx hb dX10_readUnion_69 rfl (lv_at hl 0 rfl) ?_
    obtain ⟨⟨m_beginsAt_70, m_next_70, m_token_70⟩, h9, hf⟩ := ob_s hf
    have hf := uc3_e hf
    refine gcV (index := 419) S hE (c_X10_advance ad a_m_fam m_undoCount m_thrown m_hasSnapshot m_rows m_lineLength m_formattedLength m_bufferLength m_limit m_next_69 m_beginsAt_69 m_token_69 m_error_69 m_errorAt_69 m_errorPosition m_nested m_codeCount m_buffer m_beginsAt_70 m_next_70 m_token_70 h9) mX10_advance tw1976 ⟨Nat.le_of_ble_eq_true rfl, Nat.le_of_ble_eq_true rfl⟩ hP hD hS hA ⟨Nat.zero_le _, Nat.zero_le _⟩ 0 10 rfl rfl rfl (wr := [(a_m_fam, .inl (cJ, 130, .inr (.inl m_fam)))]) [0, 1] [2] rfl rfl rfl rfl (by decide) (As := []) (rest := []) rfl hl.1 rfl (Nat.le_of_ble_eq_true rfl) dX10_readUnion_70 (fun H locs hP hD hS => ?_)
    refine W.eq (g2 := F0 m 73 ls []) rfl ?_
    have hP : va_P (dC, dI) vwCl [(a_m_fam, .inl (cJ, 130, .inr (.inl m_fam))), (ad 0, .inr (10, oM ad m_undoCount m_thrown m_hasSnapshot a_m_fam m_rows m_lineLength m_formattedLength m_bufferLength m_limit m_next_70 m_beginsAt_70 m_token_70 m_error_69 m_errorAt_69 m_errorPosition m_nested m_codeCount)), ((ad 24), .inl (cI, 800, .inl m_buffer))] H := hP
    have hD : va_D A [(a_m_fam, .inl (cJ, 130, .inr (.inl m_fam))), (ad 0, .inr (10, oM ad m_undoCount m_thrown m_hasSnapshot a_m_fam m_rows m_lineLength m_formattedLength m_bufferLength m_limit m_next_70 m_beginsAt_70 m_token_70 m_error_69 m_errorAt_69 m_errorPosition m_nested m_codeCount)), ((ad 24), .inl (cI, 800, .inl m_buffer))] := hD
    refine lv_aload_n hx hb dX10_readUnion_73 rfl (lv_at hl 0 rfl) ?_
    refine lv_iconst (v := 0) hx hb dX10_readUnion_74 (by decide) ?_
    refine lv_sipush (v := 2100) hx hb dX10_readUnion_75 (by decide) ?_
    obtain ⟨⟨r78, m_beginsAt_78, m_error_78, m_errorAt_78, m_next_78, m_token_78⟩, h9, hf⟩ := ob_s hf
    have hf := uc6_e hf
    refine gcV (index := 441) S hE (c_X10_readNumber ad a_m_fam m_undoCount m_thrown m_hasSnapshot m_rows m_lineLength m_formattedLength m_bufferLength m_limit m_next_70 m_beginsAt_70 m_token_70 m_error_69 m_errorAt_69 m_errorPosition m_nested m_codeCount m_buffer (0 : Int32) (2100 : Int32) r78 m_beginsAt_78 m_error_78 m_errorAt_78 m_next_78 m_token_78 h9) mX10_readNumber tw1989 ⟨Nat.le_of_ble_eq_true rfl, Nat.le_of_ble_eq_true rfl⟩ hP hD hS hA ⟨Nat.zero_le _, Nat.zero_le _⟩ 1 10 rfl rfl rfl (wr := [(a_m_fam, .inl (cJ, 130, .inr (.inl m_fam)))]) [1, 2] [0] rfl rfl rfl rfl (by decide) (As := [.int (0 : Int32), .int (2100 : Int32)]) (rest := []) rfl hl.1 rfl (Nat.le_of_ble_eq_true rfl) dX10_readUnion_78 (fun H locs hP hD hS => ?_)
    refine W.eq (g2 := F0 m 81 ls [.int r78]) rfl ?_
    have hP : va_P (dC, dI) vwCl [(a_m_fam, .inl (cJ, 130, .inr (.inl m_fam))), (ad 0, .inr (10, oM ad m_undoCount m_thrown m_hasSnapshot a_m_fam m_rows m_lineLength m_formattedLength m_bufferLength m_limit m_next_78 m_beginsAt_78 m_token_78 m_error_78 m_errorAt_78 m_errorPosition m_nested m_codeCount)), ((ad 24), .inl (cI, 800, .inl m_buffer))] H := hP
    have hD : va_D A [(a_m_fam, .inl (cJ, 130, .inr (.inl m_fam))), (ad 0, .inr (10, oM ad m_undoCount m_thrown m_hasSnapshot a_m_fam m_rows m_lineLength m_formattedLength m_bufferLength m_limit m_next_78 m_beginsAt_78 m_token_78 m_error_78 m_errorAt_78 m_errorPosition m_nested m_codeCount)), ((ad 24), .inl (cI, 800, .inl m_buffer))] := hD
    refine lv_istore_n (lv' := [(3, .int r78), (0, .ref (ad 0)), (1, .int v1_69), (2, .int v2_69)]) hx hb dX10_readUnion_81 rfl hl (by decide) rfl (fun ls hl => ?_)
    refine lv_aload_n hx hb dX10_readUnion_82 rfl (lv_at hl 1 rfl) ?_
    refine va_get (D := (dC, dI)) (ci := 10) (v := .int m_error_78) (C := RX10) (T := TX10) (N := 37) hx hb htg inX10 hown hE.1 hP 1 rfl rfl 29 (by decide) (htg _ tw1411) (fun _ h9 => h9) rfl dX10_readUnion_83 ?_
    refine lv_if_eq (tgt := 90) hx hb dX10_readUnion_86 (by decide) (fun h9 => ?_) (fun h9 => ?_)
    · have hf := itt h9 hf
      refine lv_aload_n hx hb dX10_readUnion_90 rfl (lv_at hl 1 rfl) ?_
      refine lv_iload_n hx hb dX10_readUnion_91 rfl (lv_at hl 2 rfl) ?_
      refine lv_iload_n hx hb dX10_readUnion_92 rfl (lv_at hl 3 rfl) ?_
      refine lv_iload_n hx hb dX10_readUnion_93 rfl (lv_at hl 0 rfl) ?_
      obtain ⟨m_fam_94, h9, hf⟩ := ob_s hf
      refine gcV (index := 330) S hE (c_X10_addUnion ad a_m_fam m_undoCount m_thrown m_hasSnapshot m_rows m_lineLength m_formattedLength m_bufferLength m_limit m_next_78 m_beginsAt_78 m_token_78 m_error_78 m_errorAt_78 m_errorPosition m_nested m_codeCount m_fam v1_69 v2_69 r78 m_fam_94 h9) mX10_addUnion tw1853 ⟨Nat.le_of_ble_eq_true rfl, Nat.le_of_ble_eq_true rfl⟩ hP hD hS hA ⟨Nat.zero_le _, Nat.zero_le _⟩ 1 10 rfl rfl rfl (wr := [((ad 24), .inl (cI, 800, .inl m_buffer))]) [1, 0] [2] rfl rfl rfl rfl (by decide) (As := [.int v1_69, .int v2_69, .int r78]) (rest := []) rfl hl.1 rfl (Nat.le_of_ble_eq_true rfl) dX10_readUnion_94 (fun H locs hP hD hS => ?_)
      refine W.eq (g2 := F0 m 97 ls []) rfl ?_
      have hP : va_P (dC, dI) vwCl [((ad 24), .inl (cI, 800, .inl m_buffer)), (ad 0, .inr (10, oM ad m_undoCount m_thrown m_hasSnapshot a_m_fam m_rows m_lineLength m_formattedLength m_bufferLength m_limit m_next_78 m_beginsAt_78 m_token_78 m_error_78 m_errorAt_78 m_errorPosition m_nested m_codeCount)), (a_m_fam, .inl (cJ, 130, .inr (.inl m_fam_94)))] H := hP
      have hD : va_D A [((ad 24), .inl (cI, 800, .inl m_buffer)), (ad 0, .inr (10, oM ad m_undoCount m_thrown m_hasSnapshot a_m_fam m_rows m_lineLength m_formattedLength m_bufferLength m_limit m_next_78 m_beginsAt_78 m_token_78 m_error_78 m_errorAt_78 m_errorPosition m_nested m_codeCount)), (a_m_fam, .inl (cJ, 130, .inr (.inl m_fam_94)))] := hD
      have K97 : ∀ (n97 : Nat) (m_beginsAt_97 : Int32) (m_error_97 : Int32) (m_errorAt_97 : Int32) (m_fam_97 : Nat → Int64) (m_next_97 : Int32) (m_token_97 : Int32) (ex97 : Int32 × Int32 × Int32 × (Nat → Int64) × Int32 × Int32) (H : Heap) (locs : List Loc) (ls : Array Slot), p10_readUnion_L97 m_buffer m_limit n97 m_beginsAt_97 m_error_97 m_errorAt_97 m_fam_97 m_next_97 m_token_97 = some ex97 → (uc6 fun m_beginsAt_x97 m_error_x97 m_errorAt_x97 m_fam_x97 m_next_x97 m_token_x97 => p10_readUnion_J125 m_next_x97 m_beginsAt_x97 m_token_x97 m_error_x97 m_errorAt_x97 m_fam_x97) ex97 = some (m_beginsAt_9, m_error_9, m_errorAt_9, m_fam_9, m_next_9, m_token_9) → va_P (dC, dI) vwCl [(ad 0, .inr (10, oM ad m_undoCount m_thrown m_hasSnapshot a_m_fam m_rows m_lineLength m_formattedLength m_bufferLength m_limit m_next_97 m_beginsAt_97 m_token_97 m_error_97 m_errorAt_97 m_errorPosition m_nested m_codeCount)), ((ad 24), .inl (cI, 800, .inl m_buffer)), (a_m_fam, .inl (cJ, 130, .inr (.inl m_fam_97)))] H → va_D A [(ad 0, .inr (10, oM ad m_undoCount m_thrown m_hasSnapshot a_m_fam m_rows m_lineLength m_formattedLength m_bufferLength m_limit m_next_97 m_beginsAt_97 m_token_97 m_error_97 m_errorAt_97 m_errorPosition m_nested m_codeCount)), ((ad 24), .inl (cI, 800, .inl m_buffer)), (a_m_fam, .inl (cJ, 130, .inr (.inl m_fam_97)))] → va_S A s.heap H locs → lv_has ls 4 [(0, .ref (ad 0))] → W p l e ({ frames := 5, cells := 0, slots := 0, locals := 115 }) s m ([.ref (ad 0)] : List Value).toArray below meth c H locs 0 0 (MQ below (gQ dC dI none A [(ad 0, .inr (10, oM ad m_undoCount m_thrown m_hasSnapshot a_m_fam m_rows m_lineLength m_formattedLength m_bufferLength m_limit m_next_9 m_beginsAt_9 m_token_9 m_error_9 m_errorAt_9 m_errorPosition m_nested m_codeCount)), ((ad 24), .inl (cI, 800, .inl m_buffer)), (a_m_fam, .inl (cJ, 130, .inr (.inl m_fam_9)))]) ([.ref (ad 0)] : List Value).toArray s 0 0 A) (F0 m 97 ls []) := by
        intro n97
        induction n97 with
        | zero => intro m_beginsAt_97 m_error_97 m_errorAt_97 m_fam_97 m_next_97 m_token_97 ex97 H locs ls hf; rw [p10_readUnion_L97] at hf; cases hf
        | succ n97 ih97 =>
          intro m_beginsAt_97 m_error_97 m_errorAt_97 m_fam_97 m_next_97 m_token_97 ex97 H locs ls hf hk97 hP hD hS hl
          rw [p10_readUnion_L97, p10_readUnion_L97_B] at hf
          refine lv_aload_n hx hb dX10_readUnion_97 rfl (lv_at hl 0 rfl) ?_
          refine va_get (D := (dC, dI)) (ci := 10) (v := .int m_error_97) (C := RX10) (T := TX10) (N := 37) hx hb htg inX10 hown hE.1 hP 0 rfl rfl 29 (by decide) (htg _ tw1411) (fun _ h9 => h9) rfl dX10_readUnion_98 ?_
          refine lv_if_ne (tgt := 125) hx hb dX10_readUnion_101 (by decide) (fun h9 => ?_) (fun h9 => ?_)
          · have hf := itf h9 hf
            cases hf
            have hf := hk97
            have hf := uc6_e hf
            exact J125 m_next_97 m_beginsAt_97 m_token_97 m_error_97 m_errorAt_97 m_fam_97 H locs ls hf hP hD hS (lv_sub hl [] rfl)
          · have hf := itt h9 hf
            refine lv_aload_n hx hb dX10_readUnion_104 rfl (lv_at hl 0 rfl) ?_
            refine va_get (D := (dC, dI)) (ci := 10) (v := .int m_token_97) (C := RX10) (T := TX10) (N := 37) hx hb htg inX10 hown hE.1 hP 0 rfl rfl 28 (by decide) (htg _ tw1410) (fun _ h9 => h9) rfl dX10_readUnion_105 ?_
            refine lv_iconst (v := 1) hx hb dX10_readUnion_108 (by decide) ?_
            refine lv_icmp_ne (tgt := 125) hx hb dX10_readUnion_109 (by decide) (fun h9 => ?_) (fun h9 => ?_)
            · have hf := itf h9 hf
              cases hf
              have hf := hk97
              have hf := uc6_e hf
              exact J125 m_next_97 m_beginsAt_97 m_token_97 m_error_97 m_errorAt_97 m_fam_97 H locs ls hf hP hD hS (lv_sub hl [] rfl)
            · have hf := itt h9 hf
              refine lv_aload_n hx hb dX10_readUnion_112 rfl (lv_at hl 0 rfl) ?_
              refine lv_aload_n hx hb dX10_readUnion_113 rfl (lv_at hl 0 rfl) ?_
              obtain ⟨r114, h9, hf⟩ := ob_s hf
              refine gcV (index := 110) S hE (c_X10_unions ad a_m_fam m_undoCount m_thrown m_hasSnapshot m_rows m_lineLength m_formattedLength m_bufferLength m_limit m_next_97 m_beginsAt_97 m_token_97 m_error_97 m_errorAt_97 m_errorPosition m_nested m_codeCount m_fam_97 r114 h9) mX10_unions tw1532 ⟨Nat.le_of_ble_eq_true rfl, Nat.le_of_ble_eq_true rfl⟩ hP hD hS hA ⟨Nat.zero_le _, Nat.zero_le _⟩ 0 10 rfl rfl rfl (wr := [((ad 24), .inl (cI, 800, .inl m_buffer))]) [0, 2] [1] rfl rfl rfl rfl (by decide) (As := []) (rest := [.ref (ad 0)]) rfl hl.1 rfl (Nat.le_of_ble_eq_true rfl) dX10_readUnion_114 (fun H locs hP hD hS => ?_)
              refine W.eq (g2 := F0 m 117 ls [.int r114, .ref (ad 0)]) rfl ?_
              have hP : va_P (dC, dI) vwCl [((ad 24), .inl (cI, 800, .inl m_buffer)), (ad 0, .inr (10, oM ad m_undoCount m_thrown m_hasSnapshot a_m_fam m_rows m_lineLength m_formattedLength m_bufferLength m_limit m_next_97 m_beginsAt_97 m_token_97 m_error_97 m_errorAt_97 m_errorPosition m_nested m_codeCount)), (a_m_fam, .inl (cJ, 130, .inr (.inl m_fam_97)))] H := hP
              have hD : va_D A [((ad 24), .inl (cI, 800, .inl m_buffer)), (ad 0, .inr (10, oM ad m_undoCount m_thrown m_hasSnapshot a_m_fam m_rows m_lineLength m_formattedLength m_bufferLength m_limit m_next_97 m_beginsAt_97 m_token_97 m_error_97 m_errorAt_97 m_errorPosition m_nested m_codeCount)), (a_m_fam, .inl (cJ, 130, .inr (.inl m_fam_97)))] := hD
              refine lv_iconst (v := 1) hx hb dX10_readUnion_117 (by decide) ?_
              refine lv_isub hx hb dX10_readUnion_118 ?_
              obtain ⟨⟨m_beginsAt_119, m_error_119, m_errorAt_119, m_fam_119, m_next_119, m_token_119⟩, h9, hf⟩ := ob_s hf
              have hf := uc6_e hf
              refine gcV (index := 447) S hE (c_X10_readChild ad a_m_fam m_undoCount m_thrown m_hasSnapshot m_rows m_lineLength m_formattedLength m_bufferLength m_limit m_next_97 m_beginsAt_97 m_token_97 m_error_97 m_errorAt_97 m_errorPosition m_nested m_codeCount m_buffer m_fam_97 (r114 - (1 : Int32)) m_beginsAt_119 m_error_119 m_errorAt_119 m_fam_119 m_next_119 m_token_119 h9) mX10_readChild tw2008 ⟨Nat.le_of_ble_eq_true rfl, Nat.le_of_ble_eq_true rfl⟩ hP hD hS hA ⟨Nat.zero_le _, Nat.zero_le _⟩ 1 10 rfl rfl rfl (wr := []) [1, 0, 2] [] rfl rfl rfl rfl (by decide) (As := [.int (r114 - (1 : Int32))]) (rest := []) rfl hl.1 rfl (Nat.le_of_ble_eq_true rfl) dX10_readUnion_119 (fun H locs hP hD hS => ?_)
              refine W.eq (g2 := F0 m 122 ls []) rfl ?_
              have hP : va_P (dC, dI) vwCl [(ad 0, .inr (10, oM ad m_undoCount m_thrown m_hasSnapshot a_m_fam m_rows m_lineLength m_formattedLength m_bufferLength m_limit m_next_119 m_beginsAt_119 m_token_119 m_error_119 m_errorAt_119 m_errorPosition m_nested m_codeCount)), ((ad 24), .inl (cI, 800, .inl m_buffer)), (a_m_fam, .inl (cJ, 130, .inr (.inl m_fam_119)))] H := hP
              have hD : va_D A [(ad 0, .inr (10, oM ad m_undoCount m_thrown m_hasSnapshot a_m_fam m_rows m_lineLength m_formattedLength m_bufferLength m_limit m_next_119 m_beginsAt_119 m_token_119 m_error_119 m_errorAt_119 m_errorPosition m_nested m_codeCount)), ((ad 24), .inl (cI, 800, .inl m_buffer)), (a_m_fam, .inl (cJ, 130, .inr (.inl m_fam_119)))] := hD
              refine lv_goto (tgt := 97) hx hb dX10_readUnion_122 (by decide) ?_
              exact ih97 m_beginsAt_119 m_error_119 m_errorAt_119 m_fam_119 m_next_119 m_token_119 ex97 H locs ls hf hk97 hP hD hS (lv_sub hl [0] rfl)
      obtain ⟨ex, h9, hf⟩ := ob_s hf
      exact K97 FU m_beginsAt_78 m_error_78 m_errorAt_78 m_fam_94 m_next_78 m_token_78 ex H locs ls h9 hf (hP.sub [1, 0, 2] rfl) (hD.sub [1, 0, 2] (by decide) rfl) hS (lv_sub hl [1] rfl)
    · have hf := itf h9 hf
      cases hf
      exact g_vret S hr hlocks (hP.sub [1, 2, 0] rfl) (hD.sub [1, 2, 0] (by decide) rfl) hS dX10_readUnion_89
  have J19 : ∀ (m_error_19 : Int32) (m_errorAt_19 : Int32) (H : Heap) (locs : List Loc) (ls : Array Slot), p10_readUnion_J19 m_beginsAt m_buffer m_fam m_limit m_next m_token m_error_19 m_errorAt_19 = some (m_beginsAt_9, m_error_9, m_errorAt_9, m_fam_9, m_next_9, m_token_9) → va_P (dC, dI) vwCl [(ad 0, .inr (10, oM ad m_undoCount m_thrown m_hasSnapshot a_m_fam m_rows m_lineLength m_formattedLength m_bufferLength m_limit m_next m_beginsAt m_token m_error_19 m_errorAt_19 m_errorPosition m_nested m_codeCount)), ((ad 24), .inl (cI, 800, .inl m_buffer)), (a_m_fam, .inl (cJ, 130, .inr (.inl m_fam)))] H → va_D A [(ad 0, .inr (10, oM ad m_undoCount m_thrown m_hasSnapshot a_m_fam m_rows m_lineLength m_formattedLength m_bufferLength m_limit m_next m_beginsAt m_token m_error_19 m_errorAt_19 m_errorPosition m_nested m_codeCount)), ((ad 24), .inl (cI, 800, .inl m_buffer)), (a_m_fam, .inl (cJ, 130, .inr (.inl m_fam)))] → va_S A s.heap H locs → lv_has ls 4 [(0, .ref (ad 0))] → W p l e ({ frames := 5, cells := 0, slots := 0, locals := 115 }) s m ([.ref (ad 0)] : List Value).toArray below meth c H locs 0 0 (MQ below (gQ dC dI none A [(ad 0, .inr (10, oM ad m_undoCount m_thrown m_hasSnapshot a_m_fam m_rows m_lineLength m_formattedLength m_bufferLength m_limit m_next_9 m_beginsAt_9 m_token_9 m_error_9 m_errorAt_9 m_errorPosition m_nested m_codeCount)), ((ad 24), .inl (cI, 800, .inl m_buffer)), (a_m_fam, .inl (cJ, 130, .inr (.inl m_fam_9)))]) ([.ref (ad 0)] : List Value).toArray s 0 0 A) (F0 m 19 ls []) := by
    intro m_error_19 m_errorAt_19 H locs ls hf hP hD hS hl
    rw [p10_readUnion_J19] at hf
    refine lv_aload_n hx hb dX10_readUnion_19 rfl (lv_at hl 0 rfl) ?_
    obtain ⟨⟨m_beginsAt_20, m_next_20, m_token_20⟩, h9, hf⟩ := ob_s hf
    have hf := uc3_e hf
    refine gcV (index := 419) S hE (c_X10_advance ad a_m_fam m_undoCount m_thrown m_hasSnapshot m_rows m_lineLength m_formattedLength m_bufferLength m_limit m_next m_beginsAt m_token m_error_19 m_errorAt_19 m_errorPosition m_nested m_codeCount m_buffer m_beginsAt_20 m_next_20 m_token_20 h9) mX10_advance tw1976 ⟨Nat.le_of_ble_eq_true rfl, Nat.le_of_ble_eq_true rfl⟩ hP hD hS hA ⟨Nat.zero_le _, Nat.zero_le _⟩ 0 10 rfl rfl rfl (wr := [(a_m_fam, .inl (cJ, 130, .inr (.inl m_fam)))]) [0, 1] [2] rfl rfl rfl rfl (by decide) (As := []) (rest := []) rfl hl.1 rfl (Nat.le_of_ble_eq_true rfl) dX10_readUnion_20 (fun H locs hP hD hS => ?_)
    refine W.eq (g2 := F0 m 23 ls []) rfl ?_
    have hP : va_P (dC, dI) vwCl [(a_m_fam, .inl (cJ, 130, .inr (.inl m_fam))), (ad 0, .inr (10, oM ad m_undoCount m_thrown m_hasSnapshot a_m_fam m_rows m_lineLength m_formattedLength m_bufferLength m_limit m_next_20 m_beginsAt_20 m_token_20 m_error_19 m_errorAt_19 m_errorPosition m_nested m_codeCount)), ((ad 24), .inl (cI, 800, .inl m_buffer))] H := hP
    have hD : va_D A [(a_m_fam, .inl (cJ, 130, .inr (.inl m_fam))), (ad 0, .inr (10, oM ad m_undoCount m_thrown m_hasSnapshot a_m_fam m_rows m_lineLength m_formattedLength m_bufferLength m_limit m_next_20 m_beginsAt_20 m_token_20 m_error_19 m_errorAt_19 m_errorPosition m_nested m_codeCount)), ((ad 24), .inl (cI, 800, .inl m_buffer))] := hD
    refine lv_aload_n hx hb dX10_readUnion_23 rfl (lv_at hl 0 rfl) ?_
    obtain ⟨⟨r24, m_error_24, m_errorAt_24⟩, h9, hf⟩ := ob_s hf
    have hf := uc3_e hf
    refine gcV (index := 444) S hE (c_X10_readName ad a_m_fam m_undoCount m_thrown m_hasSnapshot m_rows m_lineLength m_formattedLength m_bufferLength m_limit m_next_20 m_beginsAt_20 m_token_20 m_error_19 m_errorAt_19 m_errorPosition m_nested m_codeCount m_buffer m_fam r24 m_error_24 m_errorAt_24 h9) mX10_readName tw2004 ⟨Nat.le_of_ble_eq_true rfl, Nat.le_of_ble_eq_true rfl⟩ hP hD hS hA ⟨Nat.zero_le _, Nat.zero_le _⟩ 1 10 rfl rfl rfl (wr := []) [1, 2, 0] [] rfl rfl rfl rfl (by decide) (As := []) (rest := []) rfl hl.1 rfl (Nat.le_of_ble_eq_true rfl) dX10_readUnion_24 (fun H locs hP hD hS => ?_)
    refine W.eq (g2 := F0 m 27 ls [.int r24]) rfl ?_
    have hP : va_P (dC, dI) vwCl [(ad 0, .inr (10, oM ad m_undoCount m_thrown m_hasSnapshot a_m_fam m_rows m_lineLength m_formattedLength m_bufferLength m_limit m_next_20 m_beginsAt_20 m_token_20 m_error_24 m_errorAt_24 m_errorPosition m_nested m_codeCount)), ((ad 24), .inl (cI, 800, .inl m_buffer)), (a_m_fam, .inl (cJ, 130, .inr (.inl m_fam)))] H := hP
    have hD : va_D A [(ad 0, .inr (10, oM ad m_undoCount m_thrown m_hasSnapshot a_m_fam m_rows m_lineLength m_formattedLength m_bufferLength m_limit m_next_20 m_beginsAt_20 m_token_20 m_error_24 m_errorAt_24 m_errorPosition m_nested m_codeCount)), ((ad 24), .inl (cI, 800, .inl m_buffer)), (a_m_fam, .inl (cJ, 130, .inr (.inl m_fam)))] := hD
    refine lv_istore_n (lv' := [(1, .int r24), (0, .ref (ad 0))]) hx hb dX10_readUnion_27 rfl hl (by decide) rfl (fun ls hl => ?_)
    refine lv_aload_n hx hb dX10_readUnion_28 rfl (lv_at hl 1 rfl) ?_
    obtain ⟨⟨m_beginsAt_29, m_next_29, m_token_29⟩, h9, hf⟩ := ob_s hf
    have hf := uc3_e hf
    refine gcV (index := 419) S hE (c_X10_advance ad a_m_fam m_undoCount m_thrown m_hasSnapshot m_rows m_lineLength m_formattedLength m_bufferLength m_limit m_next_20 m_beginsAt_20 m_token_20 m_error_24 m_errorAt_24 m_errorPosition m_nested m_codeCount m_buffer m_beginsAt_29 m_next_29 m_token_29 h9) mX10_advance tw1976 ⟨Nat.le_of_ble_eq_true rfl, Nat.le_of_ble_eq_true rfl⟩ hP hD hS hA ⟨Nat.zero_le _, Nat.zero_le _⟩ 0 10 rfl rfl rfl (wr := [(a_m_fam, .inl (cJ, 130, .inr (.inl m_fam)))]) [0, 1] [2] rfl rfl rfl rfl (by decide) (As := []) (rest := []) rfl hl.1 rfl (Nat.le_of_ble_eq_true rfl) dX10_readUnion_29 (fun H locs hP hD hS => ?_)
    refine W.eq (g2 := F0 m 32 ls []) rfl ?_
    have hP : va_P (dC, dI) vwCl [(a_m_fam, .inl (cJ, 130, .inr (.inl m_fam))), (ad 0, .inr (10, oM ad m_undoCount m_thrown m_hasSnapshot a_m_fam m_rows m_lineLength m_formattedLength m_bufferLength m_limit m_next_29 m_beginsAt_29 m_token_29 m_error_24 m_errorAt_24 m_errorPosition m_nested m_codeCount)), ((ad 24), .inl (cI, 800, .inl m_buffer))] H := hP
    have hD : va_D A [(a_m_fam, .inl (cJ, 130, .inr (.inl m_fam))), (ad 0, .inr (10, oM ad m_undoCount m_thrown m_hasSnapshot a_m_fam m_rows m_lineLength m_formattedLength m_bufferLength m_limit m_next_29 m_beginsAt_29 m_token_29 m_error_24 m_errorAt_24 m_errorPosition m_nested m_codeCount)), ((ad 24), .inl (cI, 800, .inl m_buffer))] := hD
    refine lv_aload_n hx hb dX10_readUnion_32 rfl (lv_at hl 1 rfl) ?_
    obtain ⟨⟨r33, m_error_33, m_errorAt_33⟩, h9, hf⟩ := ob_s hf
    have hf := uc3_e hf
    refine gcV (index := 444) S hE (c_X10_readName ad a_m_fam m_undoCount m_thrown m_hasSnapshot m_rows m_lineLength m_formattedLength m_bufferLength m_limit m_next_29 m_beginsAt_29 m_token_29 m_error_24 m_errorAt_24 m_errorPosition m_nested m_codeCount m_buffer m_fam r33 m_error_33 m_errorAt_33 h9) mX10_readName tw2004 ⟨Nat.le_of_ble_eq_true rfl, Nat.le_of_ble_eq_true rfl⟩ hP hD hS hA ⟨Nat.zero_le _, Nat.zero_le _⟩ 1 10 rfl rfl rfl (wr := []) [1, 2, 0] [] rfl rfl rfl rfl (by decide) (As := []) (rest := []) rfl hl.1 rfl (Nat.le_of_ble_eq_true rfl) dX10_readUnion_33 (fun H locs hP hD hS => ?_)
    refine W.eq (g2 := F0 m 36 ls [.int r33]) rfl ?_
    have hP : va_P (dC, dI) vwCl [(ad 0, .inr (10, oM ad m_undoCount m_thrown m_hasSnapshot a_m_fam m_rows m_lineLength m_formattedLength m_bufferLength m_limit m_next_29 m_beginsAt_29 m_token_29 m_error_33 m_errorAt_33 m_errorPosition m_nested m_codeCount)), ((ad 24), .inl (cI, 800, .inl m_buffer)), (a_m_fam, .inl (cJ, 130, .inr (.inl m_fam)))] H := hP
    have hD : va_D A [(ad 0, .inr (10, oM ad m_undoCount m_thrown m_hasSnapshot a_m_fam m_rows m_lineLength m_formattedLength m_bufferLength m_limit m_next_29 m_beginsAt_29 m_token_29 m_error_33 m_errorAt_33 m_errorPosition m_nested m_codeCount)), ((ad 24), .inl (cI, 800, .inl m_buffer)), (a_m_fam, .inl (cJ, 130, .inr (.inl m_fam)))] := hD
    refine lv_istore_n (lv' := [(2, .int r33), (1, .int r24), (0, .ref (ad 0))]) hx hb dX10_readUnion_36 rfl hl (by decide) rfl (fun ls hl => ?_)
    refine lv_aload_n hx hb dX10_readUnion_37 rfl (lv_at hl 2 rfl) ?_
    refine lv_aload_n hx hb dX10_readUnion_38 rfl (lv_at hl 2 rfl) ?_
    refine va_get (D := (dC, dI)) (ci := 10) (v := .int m_error_33) (C := RX10) (T := TX10) (N := 37) hx hb htg inX10 hown hE.1 hP 0 rfl rfl 29 (by decide) (htg _ tw1411) (fun _ h9 => h9) rfl dX10_readUnion_39 ?_
    refine lv_if_ne (tgt := 60) hx hb dX10_readUnion_42 (by decide) (fun h9 => ?_) (fun h9 => ?_)
    · have hf := itf h9 hf
      refine lv_iconst (v := 1) hx hb dX10_readUnion_60 (by decide) ?_
      refine lv_goto (tgt := 65) hx hb dX10_readUnion_61 (by decide) ?_
      refine lv_iconst (v := 5) hx hb dX10_readUnion_65 (by decide) ?_
      obtain ⟨m_error_66, m_errorAt_66, h9⟩ : ∃ m_error_66 m_errorAt_66, p10_check m_beginsAt_29 m_error_33 m_errorAt_33 true (5 : Int32) = (m_error_66, m_errorAt_66) := ⟨_, _, rfl⟩
      have hf := uc2_e (lb_e h9.symm hf)
      refine gcV (index := 415) S hE (c_X10_check ad a_m_fam m_undoCount m_thrown m_hasSnapshot m_rows m_lineLength m_formattedLength m_bufferLength m_limit m_next_29 m_beginsAt_29 m_token_29 m_error_33 m_errorAt_33 m_errorPosition m_nested m_codeCount true (5 : Int32) m_error_66 m_errorAt_66 h9) mX10_check tw1968 ⟨Nat.le_of_ble_eq_true rfl, Nat.le_of_ble_eq_true rfl⟩ hP hD hS hA ⟨Nat.zero_le _, Nat.zero_le _⟩ 0 10 rfl rfl rfl (wr := [((ad 24), .inl (cI, 800, .inl m_buffer)), (a_m_fam, .inl (cJ, 130, .inr (.inl m_fam)))]) [0] [1, 2] rfl rfl rfl rfl (by decide) (As := [.int (bI true), .int (5 : Int32)]) (rest := []) rfl hl.1 rfl (Nat.le_of_ble_eq_true rfl) dX10_readUnion_66 (fun H locs hP hD hS => ?_)
      refine W.eq (g2 := F0 m 69 ls []) rfl ?_
      have hP : va_P (dC, dI) vwCl [((ad 24), .inl (cI, 800, .inl m_buffer)), (a_m_fam, .inl (cJ, 130, .inr (.inl m_fam))), (ad 0, .inr (10, oM ad m_undoCount m_thrown m_hasSnapshot a_m_fam m_rows m_lineLength m_formattedLength m_bufferLength m_limit m_next_29 m_beginsAt_29 m_token_29 m_error_66 m_errorAt_66 m_errorPosition m_nested m_codeCount))] H := hP
      have hD : va_D A [((ad 24), .inl (cI, 800, .inl m_buffer)), (a_m_fam, .inl (cJ, 130, .inr (.inl m_fam))), (ad 0, .inr (10, oM ad m_undoCount m_thrown m_hasSnapshot a_m_fam m_rows m_lineLength m_formattedLength m_bufferLength m_limit m_next_29 m_beginsAt_29 m_token_29 m_error_66 m_errorAt_66 m_errorPosition m_nested m_codeCount))] := hD
      exact J69 r24 r33 m_next_29 m_beginsAt_29 m_token_29 m_error_66 m_errorAt_66 H locs ls hf (hP.sub [2, 0, 1] rfl) (hD.sub [2, 0, 1] (by decide) rfl) hS (lv_sub hl [2, 1, 0] rfl)
    · have hf := itt h9 hf
      refine lv_iload_n hx hb dX10_readUnion_45 rfl (lv_at hl 1 rfl) ?_
      refine lv_iload_n hx hb dX10_readUnion_46 rfl (lv_at hl 0 rfl) ?_
      refine lv_icmp_eq (tgt := 64) hx hb dX10_readUnion_47 (by decide) (fun h9 => ?_) (fun h9 => ?_)
      · have hf := itt h9 hf
        refine lv_iconst (v := 0) hx hb dX10_readUnion_64 (by decide) ?_
        refine lv_iconst (v := 5) hx hb dX10_readUnion_65 (by decide) ?_
        obtain ⟨m_error_66, m_errorAt_66, h9⟩ : ∃ m_error_66 m_errorAt_66, p10_check m_beginsAt_29 m_error_33 m_errorAt_33 false (5 : Int32) = (m_error_66, m_errorAt_66) := ⟨_, _, rfl⟩
        have hf := uc2_e (lb_e h9.symm hf)
        refine gcV (index := 415) S hE (c_X10_check ad a_m_fam m_undoCount m_thrown m_hasSnapshot m_rows m_lineLength m_formattedLength m_bufferLength m_limit m_next_29 m_beginsAt_29 m_token_29 m_error_33 m_errorAt_33 m_errorPosition m_nested m_codeCount false (5 : Int32) m_error_66 m_errorAt_66 h9) mX10_check tw1968 ⟨Nat.le_of_ble_eq_true rfl, Nat.le_of_ble_eq_true rfl⟩ hP hD hS hA ⟨Nat.zero_le _, Nat.zero_le _⟩ 0 10 rfl rfl rfl (wr := [((ad 24), .inl (cI, 800, .inl m_buffer)), (a_m_fam, .inl (cJ, 130, .inr (.inl m_fam)))]) [0] [1, 2] rfl rfl rfl rfl (by decide) (As := [.int (bI false), .int (5 : Int32)]) (rest := []) rfl hl.1 rfl (Nat.le_of_ble_eq_true rfl) dX10_readUnion_66 (fun H locs hP hD hS => ?_)
        refine W.eq (g2 := F0 m 69 ls []) rfl ?_
        have hP : va_P (dC, dI) vwCl [((ad 24), .inl (cI, 800, .inl m_buffer)), (a_m_fam, .inl (cJ, 130, .inr (.inl m_fam))), (ad 0, .inr (10, oM ad m_undoCount m_thrown m_hasSnapshot a_m_fam m_rows m_lineLength m_formattedLength m_bufferLength m_limit m_next_29 m_beginsAt_29 m_token_29 m_error_66 m_errorAt_66 m_errorPosition m_nested m_codeCount))] H := hP
        have hD : va_D A [((ad 24), .inl (cI, 800, .inl m_buffer)), (a_m_fam, .inl (cJ, 130, .inr (.inl m_fam))), (ad 0, .inr (10, oM ad m_undoCount m_thrown m_hasSnapshot a_m_fam m_rows m_lineLength m_formattedLength m_bufferLength m_limit m_next_29 m_beginsAt_29 m_token_29 m_error_66 m_errorAt_66 m_errorPosition m_nested m_codeCount))] := hD
        exact J69 r24 r33 m_next_29 m_beginsAt_29 m_token_29 m_error_66 m_errorAt_66 H locs ls hf (hP.sub [2, 0, 1] rfl) (hD.sub [2, 0, 1] (by decide) rfl) hS (lv_sub hl [2, 1, 0] rfl)
      · have hf := itf h9 hf
        refine lv_aload_n hx hb dX10_readUnion_50 rfl (lv_at hl 2 rfl) ?_
        refine lv_iload_n hx hb dX10_readUnion_51 rfl (lv_at hl 1 rfl) ?_
        refine lv_iload_n hx hb dX10_readUnion_52 rfl (lv_at hl 0 rfl) ?_
        obtain ⟨r53, h9, hf⟩ := ob_s hf
        refine gcV (index := 324) S hE (c_X10_unionOf ad a_m_fam m_undoCount m_thrown m_hasSnapshot m_rows m_lineLength m_formattedLength m_bufferLength m_limit m_next_29 m_beginsAt_29 m_token_29 m_error_33 m_errorAt_33 m_errorPosition m_nested m_codeCount m_fam r24 r33 r53 h9) mX10_unionOf tw1842 ⟨Nat.le_of_ble_eq_true rfl, Nat.le_of_ble_eq_true rfl⟩ hP hD hS hA ⟨Nat.zero_le _, Nat.zero_le _⟩ 0 10 rfl rfl rfl (wr := [((ad 24), .inl (cI, 800, .inl m_buffer))]) [0, 2] [1] rfl rfl rfl rfl (by decide) (As := [.int r24, .int r33]) (rest := [.ref (ad 0)]) rfl hl.1 rfl (Nat.le_of_ble_eq_true rfl) dX10_readUnion_53 (fun H locs hP hD hS => ?_)
        refine W.eq (g2 := F0 m 56 ls [.int r53, .ref (ad 0)]) rfl ?_
        have hP : va_P (dC, dI) vwCl [((ad 24), .inl (cI, 800, .inl m_buffer)), (ad 0, .inr (10, oM ad m_undoCount m_thrown m_hasSnapshot a_m_fam m_rows m_lineLength m_formattedLength m_bufferLength m_limit m_next_29 m_beginsAt_29 m_token_29 m_error_33 m_errorAt_33 m_errorPosition m_nested m_codeCount)), (a_m_fam, .inl (cJ, 130, .inr (.inl m_fam)))] H := hP
        have hD : va_D A [((ad 24), .inl (cI, 800, .inl m_buffer)), (ad 0, .inr (10, oM ad m_undoCount m_thrown m_hasSnapshot a_m_fam m_rows m_lineLength m_formattedLength m_bufferLength m_limit m_next_29 m_beginsAt_29 m_token_29 m_error_33 m_errorAt_33 m_errorPosition m_nested m_codeCount)), (a_m_fam, .inl (cJ, 130, .inr (.inl m_fam)))] := hD
        refine lv_iconst (v := -1) hx hb dX10_readUnion_56 (by decide) ?_
        refine lv_icmp_ne (tgt := 64) hx hb dX10_readUnion_57 (by decide) (fun h9 => ?_) (fun h9 => ?_)
        · have hf := itf h9 hf
          refine lv_iconst (v := 0) hx hb dX10_readUnion_64 (by decide) ?_
          refine lv_iconst (v := 5) hx hb dX10_readUnion_65 (by decide) ?_
          obtain ⟨m_error_66, m_errorAt_66, h9⟩ : ∃ m_error_66 m_errorAt_66, p10_check m_beginsAt_29 m_error_33 m_errorAt_33 false (5 : Int32) = (m_error_66, m_errorAt_66) := ⟨_, _, rfl⟩
          have hf := uc2_e (lb_e h9.symm hf)
          refine gcV (index := 415) S hE (c_X10_check ad a_m_fam m_undoCount m_thrown m_hasSnapshot m_rows m_lineLength m_formattedLength m_bufferLength m_limit m_next_29 m_beginsAt_29 m_token_29 m_error_33 m_errorAt_33 m_errorPosition m_nested m_codeCount false (5 : Int32) m_error_66 m_errorAt_66 h9) mX10_check tw1968 ⟨Nat.le_of_ble_eq_true rfl, Nat.le_of_ble_eq_true rfl⟩ hP hD hS hA ⟨Nat.zero_le _, Nat.zero_le _⟩ 1 10 rfl rfl rfl (wr := [((ad 24), .inl (cI, 800, .inl m_buffer)), (a_m_fam, .inl (cJ, 130, .inr (.inl m_fam)))]) [1] [0, 2] rfl rfl rfl rfl (by decide) (As := [.int (bI false), .int (5 : Int32)]) (rest := []) rfl hl.1 rfl (Nat.le_of_ble_eq_true rfl) dX10_readUnion_66 (fun H locs hP hD hS => ?_)
          refine W.eq (g2 := F0 m 69 ls []) rfl ?_
          have hP : va_P (dC, dI) vwCl [((ad 24), .inl (cI, 800, .inl m_buffer)), (a_m_fam, .inl (cJ, 130, .inr (.inl m_fam))), (ad 0, .inr (10, oM ad m_undoCount m_thrown m_hasSnapshot a_m_fam m_rows m_lineLength m_formattedLength m_bufferLength m_limit m_next_29 m_beginsAt_29 m_token_29 m_error_66 m_errorAt_66 m_errorPosition m_nested m_codeCount))] H := hP
          have hD : va_D A [((ad 24), .inl (cI, 800, .inl m_buffer)), (a_m_fam, .inl (cJ, 130, .inr (.inl m_fam))), (ad 0, .inr (10, oM ad m_undoCount m_thrown m_hasSnapshot a_m_fam m_rows m_lineLength m_formattedLength m_bufferLength m_limit m_next_29 m_beginsAt_29 m_token_29 m_error_66 m_errorAt_66 m_errorPosition m_nested m_codeCount))] := hD
          exact J69 r24 r33 m_next_29 m_beginsAt_29 m_token_29 m_error_66 m_errorAt_66 H locs ls hf (hP.sub [2, 0, 1] rfl) (hD.sub [2, 0, 1] (by decide) rfl) hS (lv_sub hl [2, 1, 0] rfl)
        · have hf := itt h9 hf
          refine lv_iconst (v := 1) hx hb dX10_readUnion_60 (by decide) ?_
          refine lv_goto (tgt := 65) hx hb dX10_readUnion_61 (by decide) ?_
          refine lv_iconst (v := 5) hx hb dX10_readUnion_65 (by decide) ?_
          obtain ⟨m_error_66, m_errorAt_66, h9⟩ : ∃ m_error_66 m_errorAt_66, p10_check m_beginsAt_29 m_error_33 m_errorAt_33 true (5 : Int32) = (m_error_66, m_errorAt_66) := ⟨_, _, rfl⟩
          have hf := uc2_e (lb_e h9.symm hf)
          refine gcV (index := 415) S hE (c_X10_check ad a_m_fam m_undoCount m_thrown m_hasSnapshot m_rows m_lineLength m_formattedLength m_bufferLength m_limit m_next_29 m_beginsAt_29 m_token_29 m_error_33 m_errorAt_33 m_errorPosition m_nested m_codeCount true (5 : Int32) m_error_66 m_errorAt_66 h9) mX10_check tw1968 ⟨Nat.le_of_ble_eq_true rfl, Nat.le_of_ble_eq_true rfl⟩ hP hD hS hA ⟨Nat.zero_le _, Nat.zero_le _⟩ 1 10 rfl rfl rfl (wr := [((ad 24), .inl (cI, 800, .inl m_buffer)), (a_m_fam, .inl (cJ, 130, .inr (.inl m_fam)))]) [1] [0, 2] rfl rfl rfl rfl (by decide) (As := [.int (bI true), .int (5 : Int32)]) (rest := []) rfl hl.1 rfl (Nat.le_of_ble_eq_true rfl) dX10_readUnion_66 (fun H locs hP hD hS => ?_)
          refine W.eq (g2 := F0 m 69 ls []) rfl ?_
          have hP : va_P (dC, dI) vwCl [((ad 24), .inl (cI, 800, .inl m_buffer)), (a_m_fam, .inl (cJ, 130, .inr (.inl m_fam))), (ad 0, .inr (10, oM ad m_undoCount m_thrown m_hasSnapshot a_m_fam m_rows m_lineLength m_formattedLength m_bufferLength m_limit m_next_29 m_beginsAt_29 m_token_29 m_error_66 m_errorAt_66 m_errorPosition m_nested m_codeCount))] H := hP
          have hD : va_D A [((ad 24), .inl (cI, 800, .inl m_buffer)), (a_m_fam, .inl (cJ, 130, .inr (.inl m_fam))), (ad 0, .inr (10, oM ad m_undoCount m_thrown m_hasSnapshot a_m_fam m_rows m_lineLength m_formattedLength m_bufferLength m_limit m_next_29 m_beginsAt_29 m_token_29 m_error_66 m_errorAt_66 m_errorPosition m_nested m_codeCount))] := hD
          exact J69 r24 r33 m_next_29 m_beginsAt_29 m_token_29 m_error_66 m_errorAt_66 H locs ls hf (hP.sub [2, 0, 1] rfl) (hD.sub [2, 0, 1] (by decide) rfl) hS (lv_sub hl [2, 1, 0] rfl)
  refine lv_aload_n hx hb dX10_readUnion_0 rfl (lv_at hl 0 rfl) ?_
  refine lv_aload_n hx hb dX10_readUnion_1 rfl (lv_at hl 0 rfl) ?_
  obtain ⟨r2, h9, hf⟩ := ob_s hf
  refine gcV (index := 110) S hE (c_X10_unions ad a_m_fam m_undoCount m_thrown m_hasSnapshot m_rows m_lineLength m_formattedLength m_bufferLength m_limit m_next m_beginsAt m_token m_error m_errorAt m_errorPosition m_nested m_codeCount m_fam r2 h9) mX10_unions tw1532 ⟨Nat.le_of_ble_eq_true rfl, Nat.le_of_ble_eq_true rfl⟩ hP hD hS hA ⟨Nat.zero_le _, Nat.zero_le _⟩ 0 10 rfl rfl rfl (wr := [((ad 24), .inl (cI, 800, .inl m_buffer))]) [0, 2] [1] rfl rfl rfl rfl (by decide) (As := []) (rest := [.ref (ad 0)]) rfl hl.1 rfl (Nat.le_of_ble_eq_true rfl) dX10_readUnion_2 (fun H locs hP hD hS => ?_)
  refine W.eq (g2 := F0 m 5 ls [.int r2, .ref (ad 0)]) rfl ?_
  have hP : va_P (dC, dI) vwCl [((ad 24), .inl (cI, 800, .inl m_buffer)), (ad 0, .inr (10, oM ad m_undoCount m_thrown m_hasSnapshot a_m_fam m_rows m_lineLength m_formattedLength m_bufferLength m_limit m_next m_beginsAt m_token m_error m_errorAt m_errorPosition m_nested m_codeCount)), (a_m_fam, .inl (cJ, 130, .inr (.inl m_fam)))] H := hP
  have hD : va_D A [((ad 24), .inl (cI, 800, .inl m_buffer)), (ad 0, .inr (10, oM ad m_undoCount m_thrown m_hasSnapshot a_m_fam m_rows m_lineLength m_formattedLength m_bufferLength m_limit m_next m_beginsAt m_token m_error m_errorAt m_errorPosition m_nested m_codeCount)), (a_m_fam, .inl (cJ, 130, .inr (.inl m_fam)))] := hD
  refine lv_bipush (v := 12) hx hb dX10_readUnion_5 (by decide) ?_
  refine lv_icmp_ge (tgt := 14) hx hb dX10_readUnion_7 (by decide) (fun h9 => ?_) (fun h9 => ?_)
  · have hf := itt h9 hf
    refine lv_iconst (v := 0) hx hb dX10_readUnion_14 (by decide) ?_
    refine lv_iconst (v := 3) hx hb dX10_readUnion_15 (by decide) ?_
    obtain ⟨m_error_16, m_errorAt_16, h9⟩ : ∃ m_error_16 m_errorAt_16, p10_check m_beginsAt m_error m_errorAt false (3 : Int32) = (m_error_16, m_errorAt_16) := ⟨_, _, rfl⟩
    have hf := uc2_e (lb_e h9.symm hf)
    refine gcV (index := 415) S hE (c_X10_check ad a_m_fam m_undoCount m_thrown m_hasSnapshot m_rows m_lineLength m_formattedLength m_bufferLength m_limit m_next m_beginsAt m_token m_error m_errorAt m_errorPosition m_nested m_codeCount false (3 : Int32) m_error_16 m_errorAt_16 h9) mX10_check tw1968 ⟨Nat.le_of_ble_eq_true rfl, Nat.le_of_ble_eq_true rfl⟩ hP hD hS hA ⟨Nat.zero_le _, Nat.zero_le _⟩ 1 10 rfl rfl rfl (wr := [((ad 24), .inl (cI, 800, .inl m_buffer)), (a_m_fam, .inl (cJ, 130, .inr (.inl m_fam)))]) [1] [0, 2] rfl rfl rfl rfl (by decide) (As := [.int (bI false), .int (3 : Int32)]) (rest := []) rfl hl.1 rfl (Nat.le_of_ble_eq_true rfl) dX10_readUnion_16 (fun H locs hP hD hS => ?_)
    refine W.eq (g2 := F0 m 19 ls []) rfl ?_
    have hP : va_P (dC, dI) vwCl [((ad 24), .inl (cI, 800, .inl m_buffer)), (a_m_fam, .inl (cJ, 130, .inr (.inl m_fam))), (ad 0, .inr (10, oM ad m_undoCount m_thrown m_hasSnapshot a_m_fam m_rows m_lineLength m_formattedLength m_bufferLength m_limit m_next m_beginsAt m_token m_error_16 m_errorAt_16 m_errorPosition m_nested m_codeCount))] H := hP
    have hD : va_D A [((ad 24), .inl (cI, 800, .inl m_buffer)), (a_m_fam, .inl (cJ, 130, .inr (.inl m_fam))), (ad 0, .inr (10, oM ad m_undoCount m_thrown m_hasSnapshot a_m_fam m_rows m_lineLength m_formattedLength m_bufferLength m_limit m_next m_beginsAt m_token m_error_16 m_errorAt_16 m_errorPosition m_nested m_codeCount))] := hD
    exact J19 m_error_16 m_errorAt_16 H locs ls hf (hP.sub [2, 0, 1] rfl) (hD.sub [2, 0, 1] (by decide) rfl) hS (lv_sub hl [0] rfl)
  · have hf := itf h9 hf
    refine lv_iconst (v := 1) hx hb dX10_readUnion_10 (by decide) ?_
    refine lv_goto (tgt := 15) hx hb dX10_readUnion_11 (by decide) ?_
    refine lv_iconst (v := 3) hx hb dX10_readUnion_15 (by decide) ?_
    obtain ⟨m_error_16, m_errorAt_16, h9⟩ : ∃ m_error_16 m_errorAt_16, p10_check m_beginsAt m_error m_errorAt true (3 : Int32) = (m_error_16, m_errorAt_16) := ⟨_, _, rfl⟩
    have hf := uc2_e (lb_e h9.symm hf)
    refine gcV (index := 415) S hE (c_X10_check ad a_m_fam m_undoCount m_thrown m_hasSnapshot m_rows m_lineLength m_formattedLength m_bufferLength m_limit m_next m_beginsAt m_token m_error m_errorAt m_errorPosition m_nested m_codeCount true (3 : Int32) m_error_16 m_errorAt_16 h9) mX10_check tw1968 ⟨Nat.le_of_ble_eq_true rfl, Nat.le_of_ble_eq_true rfl⟩ hP hD hS hA ⟨Nat.zero_le _, Nat.zero_le _⟩ 1 10 rfl rfl rfl (wr := [((ad 24), .inl (cI, 800, .inl m_buffer)), (a_m_fam, .inl (cJ, 130, .inr (.inl m_fam)))]) [1] [0, 2] rfl rfl rfl rfl (by decide) (As := [.int (bI true), .int (3 : Int32)]) (rest := []) rfl hl.1 rfl (Nat.le_of_ble_eq_true rfl) dX10_readUnion_16 (fun H locs hP hD hS => ?_)
    refine W.eq (g2 := F0 m 19 ls []) rfl ?_
    have hP : va_P (dC, dI) vwCl [((ad 24), .inl (cI, 800, .inl m_buffer)), (a_m_fam, .inl (cJ, 130, .inr (.inl m_fam))), (ad 0, .inr (10, oM ad m_undoCount m_thrown m_hasSnapshot a_m_fam m_rows m_lineLength m_formattedLength m_bufferLength m_limit m_next m_beginsAt m_token m_error_16 m_errorAt_16 m_errorPosition m_nested m_codeCount))] H := hP
    have hD : va_D A [((ad 24), .inl (cI, 800, .inl m_buffer)), (a_m_fam, .inl (cJ, 130, .inr (.inl m_fam))), (ad 0, .inr (10, oM ad m_undoCount m_thrown m_hasSnapshot a_m_fam m_rows m_lineLength m_formattedLength m_bufferLength m_limit m_next m_beginsAt m_token m_error_16 m_errorAt_16 m_errorPosition m_nested m_codeCount))] := hD
    exact J19 m_error_16 m_errorAt_16 H locs ls hf (hP.sub [2, 0, 1] rfl) (hD.sub [2, 0, 1] (by decide) rfl) hS (lv_sub hl [0] rfl)
def p10_readClause_J39 (m_buffer : Nat → Int32) (m_limit : Int32) (m_next_39 : Int32) (m_beginsAt_39 : Int32) (m_token_39 : Int32) (m_error_39 : Int32) (m_errorAt_39 : Int32) (m_fam_39 : Nat → Int64) : Option (Int32 × Int32 × Int32 × (Nat → Int64) × Int32 × Int32) := ob (p10_expect m_limit m_next_39 m_beginsAt_39 m_token_39 m_error_39 m_errorAt_39 m_buffer (59 : Int32)) (uc5 fun m_beginsAt_42 m_error_42 m_errorAt_42 m_next_42 m_token_42 => some (m_beginsAt_42, m_error_42, m_errorAt_42, m_fam_39, m_next_42, m_token_42))
def p10_readClause (m_limit : Int32) (m_next : Int32) (m_beginsAt : Int32) (m_token : Int32) (m_error : Int32) (m_errorAt : Int32) (m_buffer : Nat → Int32) (m_fam : Nat → Int64) : Option (Int32 × Int32 × Int32 × (Nat → Int64) × Int32 × Int32) := ob (p10_isWord m_next m_beginsAt m_token m_error m_buffer 0) (fun r3 => (cond r3 (ob (p10_readPerson m_limit m_next m_beginsAt m_token m_error m_errorAt m_buffer m_fam) (uc6 fun m_beginsAt_10 m_error_10 m_errorAt_10 m_fam_10 m_next_10 m_token_10 => (p10_readClause_J39 m_buffer m_limit m_next_10 m_beginsAt_10 m_token_10 m_error_10 m_errorAt_10 m_fam_10))) (ob (p10_isWord m_next m_beginsAt m_token m_error m_buffer 1) (fun r20 => (cond r20 (ob (p10_readUnion m_limit m_next m_beginsAt m_token m_error m_errorAt m_buffer m_fam) (uc6 fun m_beginsAt_27 m_error_27 m_errorAt_27 m_fam_27 m_next_27 m_token_27 => (p10_readClause_J39 m_buffer m_limit m_next_27 m_beginsAt_27 m_token_27 m_error_27 m_errorAt_27 m_fam_27))) (lb (p10_check m_beginsAt m_error m_errorAt false (1 : Int32)) (uc2 fun m_error_36 m_errorAt_36 => (p10_readClause_J39 m_buffer m_limit m_next m_beginsAt m_token m_error_36 m_errorAt_36 m_fam))))))))
set_option maxHeartbeats 4000000 in
set_option maxRecDepth 100000 in
theorem c_X10_readClause (ad : Nat → Nat) (a_m_fam : Nat) (m_undoCount : Int32) (m_thrown : Int32) (m_hasSnapshot : Bool) (m_rows : Int32) (m_lineLength : Int32) (m_formattedLength : Int32) (m_bufferLength : Int32) (m_limit : Int32) (m_next : Int32) (m_beginsAt : Int32) (m_token : Int32) (m_error : Int32) (m_errorAt : Int32) (m_errorPosition : Int32) (m_nested : Int32) (m_codeCount : Int32) (m_buffer : Nat → Int32) (m_fam : Nat → Int64) (m_beginsAt_9 : Int32) (m_error_9 : Int32) (m_errorAt_9 : Int32) (m_fam_9 : Nat → Int64) (m_next_9 : Int32) (m_token_9 : Int32) (hf : p10_readClause m_limit m_next m_beginsAt m_token m_error m_errorAt m_buffer m_fam = some (m_beginsAt_9, m_error_9, m_errorAt_9, m_fam_9, m_next_9, m_token_9)) : gMH l dC dI cI cJ cZ adK adV yX10_readClause cX10_readClause 1 none (6) (138) [.ref (ad 0)] [(ad 0, .inr (10, oM ad m_undoCount m_thrown m_hasSnapshot a_m_fam m_rows m_lineLength m_formattedLength m_bufferLength m_limit m_next m_beginsAt m_token m_error m_errorAt m_errorPosition m_nested m_codeCount)), ((ad 24), .inl (cI, 800, .inl m_buffer)), (a_m_fam, .inl (cJ, 130, .inr (.inl m_fam)))] [(ad 0, .inr (10, oM ad m_undoCount m_thrown m_hasSnapshot a_m_fam m_rows m_lineLength m_formattedLength m_bufferLength m_limit m_next_9 m_beginsAt_9 m_token_9 m_error_9 m_errorAt_9 m_errorPosition m_nested m_codeCount)), ((ad 24), .inl (cI, 800, .inl m_buffer)), (a_m_fam, .inl (cJ, 130, .inr (.inl m_fam_9)))] none := by
  refine g_startH (own := RX10) (by decide +kernel) rfl (Nat.le_of_ble_eq_true rfl) ?_
  intro p e s m below meth c A ls S hr hlocks hE hG hP hD hS hA hl hin
  have hx := S.1
  have hb := S.2.1
  have hml := S.2.2.1
  have hown := S.2.2.2.1
  have htg : ∀ z ∈ gw, z.before ([.ref (ad 0)] : List Value).toArray s = true := fun w h => S.2.2.2.2 w (List.mem_cons_of_mem _ h)
  have hl : lv_has ls 1 [(0, .ref (ad 0))] := hl
  have hS0 := hS
  obtain ⟨H, hH⟩ : ∃ H, H = s.heap := ⟨_, rfl⟩
  obtain ⟨locs, hlc⟩ : ∃ locs : List Loc, locs = [] := ⟨_, rfl⟩
  have hS : va_S A s.heap H locs := by rw [hH, hlc]; exact hS0
  have hP : va_P (dC, dI) vwCl [(ad 0, .inr (10, oM ad m_undoCount m_thrown m_hasSnapshot a_m_fam m_rows m_lineLength m_formattedLength m_bufferLength m_limit m_next m_beginsAt m_token m_error m_errorAt m_errorPosition m_nested m_codeCount)), ((ad 24), .inl (cI, 800, .inl m_buffer)), (a_m_fam, .inl (cJ, 130, .inr (.inl m_fam)))] H := by rw [hH]; exact hP
  suffices hgo : W p l e ({ frames := 6, cells := 0, slots := 0, locals := 138 }) s m ([.ref (ad 0)] : List Value).toArray below meth c H locs 0 0 (MQ below (gQ dC dI none A [(ad 0, .inr (10, oM ad m_undoCount m_thrown m_hasSnapshot a_m_fam m_rows m_lineLength m_formattedLength m_bufferLength m_limit m_next_9 m_beginsAt_9 m_token_9 m_error_9 m_errorAt_9 m_errorPosition m_nested m_codeCount)), ((ad 24), .inl (cI, 800, .inl m_buffer)), (a_m_fam, .inl (cJ, 130, .inr (.inl m_fam_9)))]) ([.ref (ad 0)] : List Value).toArray s 0 0 A) (F0 m 0 ls []) by rw [hH, hlc] at hgo; exact hgo
  rw [p10_readClause] at hf
  have J39 : ∀ (m_next_39 : Int32) (m_beginsAt_39 : Int32) (m_token_39 : Int32) (m_error_39 : Int32) (m_errorAt_39 : Int32) (m_fam_39 : Nat → Int64) (H : Heap) (locs : List Loc) (ls : Array Slot), p10_readClause_J39 m_buffer m_limit m_next_39 m_beginsAt_39 m_token_39 m_error_39 m_errorAt_39 m_fam_39 = some (m_beginsAt_9, m_error_9, m_errorAt_9, m_fam_9, m_next_9, m_token_9) → va_P (dC, dI) vwCl [(ad 0, .inr (10, oM ad m_undoCount m_thrown m_hasSnapshot a_m_fam m_rows m_lineLength m_formattedLength m_bufferLength m_limit m_next_39 m_beginsAt_39 m_token_39 m_error_39 m_errorAt_39 m_errorPosition m_nested m_codeCount)), ((ad 24), .inl (cI, 800, .inl m_buffer)), (a_m_fam, .inl (cJ, 130, .inr (.inl m_fam_39)))] H → va_D A [(ad 0, .inr (10, oM ad m_undoCount m_thrown m_hasSnapshot a_m_fam m_rows m_lineLength m_formattedLength m_bufferLength m_limit m_next_39 m_beginsAt_39 m_token_39 m_error_39 m_errorAt_39 m_errorPosition m_nested m_codeCount)), ((ad 24), .inl (cI, 800, .inl m_buffer)), (a_m_fam, .inl (cJ, 130, .inr (.inl m_fam_39)))] → va_S A s.heap H locs → lv_has ls 1 [(0, .ref (ad 0))] → W p l e ({ frames := 6, cells := 0, slots := 0, locals := 138 }) s m ([.ref (ad 0)] : List Value).toArray below meth c H locs 0 0 (MQ below (gQ dC dI none A [(ad 0, .inr (10, oM ad m_undoCount m_thrown m_hasSnapshot a_m_fam m_rows m_lineLength m_formattedLength m_bufferLength m_limit m_next_9 m_beginsAt_9 m_token_9 m_error_9 m_errorAt_9 m_errorPosition m_nested m_codeCount)), ((ad 24), .inl (cI, 800, .inl m_buffer)), (a_m_fam, .inl (cJ, 130, .inr (.inl m_fam_9)))]) ([.ref (ad 0)] : List Value).toArray s 0 0 A) (F0 m 39 ls []) := by
    intro m_next_39 m_beginsAt_39 m_token_39 m_error_39 m_errorAt_39 m_fam_39 H locs ls hf hP hD hS hl
    rw [p10_readClause_J39] at hf
    refine lv_aload_n hx hb dX10_readClause_39 rfl (lv_at hl 0 rfl) ?_
    refine lv_bipush (v := 59) hx hb dX10_readClause_40 (by decide) ?_
    obtain ⟨⟨m_beginsAt_42, m_error_42, m_errorAt_42, m_next_42, m_token_42⟩, h9, hf⟩ := ob_s hf
    have hf := uc5_e hf
    refine gcV (index := 458) S hE (c_X10_expect ad a_m_fam m_undoCount m_thrown m_hasSnapshot m_rows m_lineLength m_formattedLength m_bufferLength m_limit m_next_39 m_beginsAt_39 m_token_39 m_error_39 m_errorAt_39 m_errorPosition m_nested m_codeCount m_buffer (59 : Int32) m_beginsAt_42 m_error_42 m_errorAt_42 m_next_42 m_token_42 h9) mX10_expect tw2012 ⟨Nat.le_of_ble_eq_true rfl, Nat.le_of_ble_eq_true rfl⟩ hP hD hS hA ⟨Nat.zero_le _, Nat.zero_le _⟩ 0 10 rfl rfl rfl (wr := [(a_m_fam, .inl (cJ, 130, .inr (.inl m_fam_39)))]) [0, 1] [2] rfl rfl rfl rfl (by decide) (As := [.int (59 : Int32)]) (rest := []) rfl hl.1 rfl (Nat.le_of_ble_eq_true rfl) dX10_readClause_42 (fun H locs hP hD hS => ?_)
    refine W.eq (g2 := F0 m 45 ls []) rfl ?_
    have hP : va_P (dC, dI) vwCl [(a_m_fam, .inl (cJ, 130, .inr (.inl m_fam_39))), (ad 0, .inr (10, oM ad m_undoCount m_thrown m_hasSnapshot a_m_fam m_rows m_lineLength m_formattedLength m_bufferLength m_limit m_next_42 m_beginsAt_42 m_token_42 m_error_42 m_errorAt_42 m_errorPosition m_nested m_codeCount)), ((ad 24), .inl (cI, 800, .inl m_buffer))] H := hP
    have hD : va_D A [(a_m_fam, .inl (cJ, 130, .inr (.inl m_fam_39))), (ad 0, .inr (10, oM ad m_undoCount m_thrown m_hasSnapshot a_m_fam m_rows m_lineLength m_formattedLength m_bufferLength m_limit m_next_42 m_beginsAt_42 m_token_42 m_error_42 m_errorAt_42 m_errorPosition m_nested m_codeCount)), ((ad 24), .inl (cI, 800, .inl m_buffer))] := hD
    cases hf
    exact g_vret S hr hlocks (hP.sub [1, 2, 0] rfl) (hD.sub [1, 2, 0] (by decide) rfl) hS dX10_readClause_45
  refine lv_aload_n hx hb dX10_readClause_0 rfl (lv_at hl 0 rfl) ?_
  refine va_ldcS (own := RX10) hx hb hown (hG.2.2.1 28 ("FamilyChartModel", 72, "person", 0) rfl) dX10_readClause_1 ?_
  obtain ⟨r3, h9, hf⟩ := ob_s hf
  refine gcVH (index := 411) S hE hG (c_X10_isWord ad a_m_fam m_undoCount m_thrown m_hasSnapshot m_rows m_lineLength m_formattedLength m_bufferLength m_limit m_next m_beginsAt m_token m_error m_errorAt m_errorPosition m_nested m_codeCount m_buffer 0 (by decide) r3 h9) mX10_isWord tw1958 ⟨Nat.le_of_ble_eq_true rfl, Nat.le_of_ble_eq_true rfl⟩ hP hD hS hA ⟨Nat.zero_le _, Nat.zero_le _⟩ 0 10 rfl rfl rfl (wr := [(a_m_fam, .inl (cJ, 130, .inr (.inl m_fam)))]) [0, 1] [2] rfl rfl rfl rfl (by decide) (As := [.ref (adK 0)]) (rest := []) rfl hl.1 rfl (Nat.le_of_ble_eq_true rfl) dX10_readClause_3 (fun H locs hP hD hS => ?_)
  refine W.eq (g2 := F0 m 6 ls [.int (bI r3)]) rfl ?_
  have hP : va_P (dC, dI) vwCl [(a_m_fam, .inl (cJ, 130, .inr (.inl m_fam))), (ad 0, .inr (10, oM ad m_undoCount m_thrown m_hasSnapshot a_m_fam m_rows m_lineLength m_formattedLength m_bufferLength m_limit m_next m_beginsAt m_token m_error m_errorAt m_errorPosition m_nested m_codeCount)), ((ad 24), .inl (cI, 800, .inl m_buffer))] H := hP
  have hD : va_D A [(a_m_fam, .inl (cJ, 130, .inr (.inl m_fam))), (ad 0, .inr (10, oM ad m_undoCount m_thrown m_hasSnapshot a_m_fam m_rows m_lineLength m_formattedLength m_bufferLength m_limit m_next m_beginsAt m_token m_error m_errorAt m_errorPosition m_nested m_codeCount)), ((ad 24), .inl (cI, 800, .inl m_buffer))] := hD
  refine lv_if_eq (tgt := 16) hx hb dX10_readClause_6 (by decide) (fun h9 => ?_) (fun h9 => ?_)
  · have hf := ctf (bI_0 h9) hf
    refine lv_aload_n hx hb dX10_readClause_16 rfl (lv_at hl 0 rfl) ?_
    refine va_ldcSw (own := RX10) hx hb hown (hG.2.2.1 35 ("FamilyChartModel", 453, "union", 1) rfl) dX10_readClause_17 ?_
    obtain ⟨r20, h9, hf⟩ := ob_s hf
    refine gcVH (index := 411) S hE hG (c_X10_isWord ad a_m_fam m_undoCount m_thrown m_hasSnapshot m_rows m_lineLength m_formattedLength m_bufferLength m_limit m_next m_beginsAt m_token m_error m_errorAt m_errorPosition m_nested m_codeCount m_buffer 1 (by decide) r20 h9) mX10_isWord tw1958 ⟨Nat.le_of_ble_eq_true rfl, Nat.le_of_ble_eq_true rfl⟩ hP hD hS hA ⟨Nat.zero_le _, Nat.zero_le _⟩ 1 10 rfl rfl rfl (wr := [(a_m_fam, .inl (cJ, 130, .inr (.inl m_fam)))]) [1, 2] [0] rfl rfl rfl rfl (by decide) (As := [.ref (adK 1)]) (rest := []) rfl hl.1 rfl (Nat.le_of_ble_eq_true rfl) dX10_readClause_20 (fun H locs hP hD hS => ?_)
    refine W.eq (g2 := F0 m 23 ls [.int (bI r20)]) rfl ?_
    have hP : va_P (dC, dI) vwCl [(a_m_fam, .inl (cJ, 130, .inr (.inl m_fam))), (ad 0, .inr (10, oM ad m_undoCount m_thrown m_hasSnapshot a_m_fam m_rows m_lineLength m_formattedLength m_bufferLength m_limit m_next m_beginsAt m_token m_error m_errorAt m_errorPosition m_nested m_codeCount)), ((ad 24), .inl (cI, 800, .inl m_buffer))] H := hP
    have hD : va_D A [(a_m_fam, .inl (cJ, 130, .inr (.inl m_fam))), (ad 0, .inr (10, oM ad m_undoCount m_thrown m_hasSnapshot a_m_fam m_rows m_lineLength m_formattedLength m_bufferLength m_limit m_next m_beginsAt m_token m_error m_errorAt m_errorPosition m_nested m_codeCount)), ((ad 24), .inl (cI, 800, .inl m_buffer))] := hD
    refine lv_if_eq (tgt := 33) hx hb dX10_readClause_23 (by decide) (fun h9 => ?_) (fun h9 => ?_)
    · have hf := ctf (bI_0 h9) hf
      refine lv_aload_n hx hb dX10_readClause_33 rfl (lv_at hl 0 rfl) ?_
      refine lv_iconst (v := 0) hx hb dX10_readClause_34 (by decide) ?_
      refine lv_iconst (v := 1) hx hb dX10_readClause_35 (by decide) ?_
      obtain ⟨m_error_36, m_errorAt_36, h9⟩ : ∃ m_error_36 m_errorAt_36, p10_check m_beginsAt m_error m_errorAt false (1 : Int32) = (m_error_36, m_errorAt_36) := ⟨_, _, rfl⟩
      have hf := uc2_e (lb_e h9.symm hf)
      refine gcV (index := 415) S hE (c_X10_check ad a_m_fam m_undoCount m_thrown m_hasSnapshot m_rows m_lineLength m_formattedLength m_bufferLength m_limit m_next m_beginsAt m_token m_error m_errorAt m_errorPosition m_nested m_codeCount false (1 : Int32) m_error_36 m_errorAt_36 h9) mX10_check tw1968 ⟨Nat.le_of_ble_eq_true rfl, Nat.le_of_ble_eq_true rfl⟩ hP hD hS hA ⟨Nat.zero_le _, Nat.zero_le _⟩ 1 10 rfl rfl rfl (wr := [(a_m_fam, .inl (cJ, 130, .inr (.inl m_fam))), ((ad 24), .inl (cI, 800, .inl m_buffer))]) [1] [0, 2] rfl rfl rfl rfl (by decide) (As := [.int (bI false), .int (1 : Int32)]) (rest := []) rfl hl.1 rfl (Nat.le_of_ble_eq_true rfl) dX10_readClause_36 (fun H locs hP hD hS => ?_)
      refine W.eq (g2 := F0 m 39 ls []) rfl ?_
      have hP : va_P (dC, dI) vwCl [(a_m_fam, .inl (cJ, 130, .inr (.inl m_fam))), ((ad 24), .inl (cI, 800, .inl m_buffer)), (ad 0, .inr (10, oM ad m_undoCount m_thrown m_hasSnapshot a_m_fam m_rows m_lineLength m_formattedLength m_bufferLength m_limit m_next m_beginsAt m_token m_error_36 m_errorAt_36 m_errorPosition m_nested m_codeCount))] H := hP
      have hD : va_D A [(a_m_fam, .inl (cJ, 130, .inr (.inl m_fam))), ((ad 24), .inl (cI, 800, .inl m_buffer)), (ad 0, .inr (10, oM ad m_undoCount m_thrown m_hasSnapshot a_m_fam m_rows m_lineLength m_formattedLength m_bufferLength m_limit m_next m_beginsAt m_token m_error_36 m_errorAt_36 m_errorPosition m_nested m_codeCount))] := hD
      exact J39 m_next m_beginsAt m_token m_error_36 m_errorAt_36 m_fam H locs ls hf (hP.sub [2, 1, 0] rfl) (hD.sub [2, 1, 0] (by decide) rfl) hS (lv_sub hl [0] rfl)
    · have hf := ctt (bI_1 h9) hf
      refine lv_aload_n hx hb dX10_readClause_26 rfl (lv_at hl 0 rfl) ?_
      obtain ⟨⟨m_beginsAt_27, m_error_27, m_errorAt_27, m_fam_27, m_next_27, m_token_27⟩, h9, hf⟩ := ob_s hf
      have hf := uc6_e hf
      refine gcV (index := 455) S hE (c_X10_readUnion ad a_m_fam m_undoCount m_thrown m_hasSnapshot m_rows m_lineLength m_formattedLength m_bufferLength m_limit m_next m_beginsAt m_token m_error m_errorAt m_errorPosition m_nested m_codeCount m_buffer m_fam m_beginsAt_27 m_error_27 m_errorAt_27 m_fam_27 m_next_27 m_token_27 h9) mX10_readUnion tw2000 ⟨Nat.le_of_ble_eq_true rfl, Nat.le_of_ble_eq_true rfl⟩ hP hD hS hA ⟨Nat.zero_le _, Nat.zero_le _⟩ 1 10 rfl rfl rfl (wr := []) [1, 2, 0] [] rfl rfl rfl rfl (by decide) (As := []) (rest := []) rfl hl.1 rfl (Nat.le_of_ble_eq_true rfl) dX10_readClause_27 (fun H locs hP hD hS => ?_)
      refine W.eq (g2 := F0 m 30 ls []) rfl ?_
      have hP : va_P (dC, dI) vwCl [(ad 0, .inr (10, oM ad m_undoCount m_thrown m_hasSnapshot a_m_fam m_rows m_lineLength m_formattedLength m_bufferLength m_limit m_next_27 m_beginsAt_27 m_token_27 m_error_27 m_errorAt_27 m_errorPosition m_nested m_codeCount)), ((ad 24), .inl (cI, 800, .inl m_buffer)), (a_m_fam, .inl (cJ, 130, .inr (.inl m_fam_27)))] H := hP
      have hD : va_D A [(ad 0, .inr (10, oM ad m_undoCount m_thrown m_hasSnapshot a_m_fam m_rows m_lineLength m_formattedLength m_bufferLength m_limit m_next_27 m_beginsAt_27 m_token_27 m_error_27 m_errorAt_27 m_errorPosition m_nested m_codeCount)), ((ad 24), .inl (cI, 800, .inl m_buffer)), (a_m_fam, .inl (cJ, 130, .inr (.inl m_fam_27)))] := hD
      refine lv_goto (tgt := 39) hx hb dX10_readClause_30 (by decide) ?_
      exact J39 m_next_27 m_beginsAt_27 m_token_27 m_error_27 m_errorAt_27 m_fam_27 H locs ls hf hP hD hS (lv_sub hl [0] rfl)
  · have hf := ctt (bI_1 h9) hf
    refine lv_aload_n hx hb dX10_readClause_9 rfl (lv_at hl 0 rfl) ?_
    obtain ⟨⟨m_beginsAt_10, m_error_10, m_errorAt_10, m_fam_10, m_next_10, m_token_10⟩, h9, hf⟩ := ob_s hf
    have hf := uc6_e hf
    refine gcV (index := 450) S hE (c_X10_readPerson ad a_m_fam m_undoCount m_thrown m_hasSnapshot m_rows m_lineLength m_formattedLength m_bufferLength m_limit m_next m_beginsAt m_token m_error m_errorAt m_errorPosition m_nested m_codeCount m_buffer m_fam m_beginsAt_10 m_error_10 m_errorAt_10 m_fam_10 m_next_10 m_token_10 h9) mX10_readPerson tw1964 ⟨Nat.le_of_ble_eq_true rfl, Nat.le_of_ble_eq_true rfl⟩ hP hD hS hA ⟨Nat.zero_le _, Nat.zero_le _⟩ 1 10 rfl rfl rfl (wr := []) [1, 2, 0] [] rfl rfl rfl rfl (by decide) (As := []) (rest := []) rfl hl.1 rfl (Nat.le_of_ble_eq_true rfl) dX10_readClause_10 (fun H locs hP hD hS => ?_)
    refine W.eq (g2 := F0 m 13 ls []) rfl ?_
    have hP : va_P (dC, dI) vwCl [(ad 0, .inr (10, oM ad m_undoCount m_thrown m_hasSnapshot a_m_fam m_rows m_lineLength m_formattedLength m_bufferLength m_limit m_next_10 m_beginsAt_10 m_token_10 m_error_10 m_errorAt_10 m_errorPosition m_nested m_codeCount)), ((ad 24), .inl (cI, 800, .inl m_buffer)), (a_m_fam, .inl (cJ, 130, .inr (.inl m_fam_10)))] H := hP
    have hD : va_D A [(ad 0, .inr (10, oM ad m_undoCount m_thrown m_hasSnapshot a_m_fam m_rows m_lineLength m_formattedLength m_bufferLength m_limit m_next_10 m_beginsAt_10 m_token_10 m_error_10 m_errorAt_10 m_errorPosition m_nested m_codeCount)), ((ad 24), .inl (cI, 800, .inl m_buffer)), (a_m_fam, .inl (cJ, 130, .inr (.inl m_fam_10)))] := hD
    refine lv_goto (tgt := 39) hx hb dX10_readClause_13 (by decide) ?_
    exact J39 m_next_10 m_beginsAt_10 m_token_10 m_error_10 m_errorAt_10 m_fam_10 H locs ls hf hP hD hS (lv_sub hl [0] rfl)
def p10_emit (m_error : Int32) (m_codeCount : Int32) (m_codes : Nat → Int32) (v1 : Int32) : Option (Int32 × (Nat → Int32)) := (if m_error = (0 : Int32) then gd m_codeCount 200 (lb (upd m_codes m_codeCount.toNatClampNeg v1) (fun g16 => lb (m_codeCount + (1 : Int32)) (fun t24 => some (t24, g16)))) else some (m_codeCount, m_codes))
set_option maxHeartbeats 4000000 in
set_option maxRecDepth 100000 in
theorem c_X10_emit (ad : Nat → Nat) (a_m_fam : Nat) (m_undoCount : Int32) (m_thrown : Int32) (m_hasSnapshot : Bool) (m_rows : Int32) (m_lineLength : Int32) (m_formattedLength : Int32) (m_bufferLength : Int32) (m_limit : Int32) (m_next : Int32) (m_beginsAt : Int32) (m_token : Int32) (m_error : Int32) (m_errorAt : Int32) (m_errorPosition : Int32) (m_nested : Int32) (m_codeCount : Int32) (m_codes : Nat → Int32) (v1 : Int32) (m_codeCount_9 : Int32) (m_codes_9 : Nat → Int32) (hf : p10_emit m_error m_codeCount m_codes v1 = some (m_codeCount_9, m_codes_9)) : gM l dC dI cI cJ cZ yX10_emit cX10_emit 2 none (0) (0) [.ref (ad 0), .int v1] [(ad 0, .inr (10, oM ad m_undoCount m_thrown m_hasSnapshot a_m_fam m_rows m_lineLength m_formattedLength m_bufferLength m_limit m_next m_beginsAt m_token m_error m_errorAt m_errorPosition m_nested m_codeCount)), ((ad 35), .inl (cI, 200, .inl m_codes))] [(ad 0, .inr (10, oM ad m_undoCount m_thrown m_hasSnapshot a_m_fam m_rows m_lineLength m_formattedLength m_bufferLength m_limit m_next m_beginsAt m_token m_error m_errorAt m_errorPosition m_nested m_codeCount_9)), ((ad 35), .inl (cI, 200, .inl m_codes_9))] none := by
  refine g_start (own := RX10) (by decide +kernel) rfl (Nat.le_of_ble_eq_true rfl) ?_
  intro p e s m below meth c A ls S hr hlocks hE hP hD hS hA hl hin
  have hx := S.1
  have hb := S.2.1
  have hml := S.2.2.1
  have hown := S.2.2.2.1
  have htg : ∀ z ∈ gw, z.before ([.ref (ad 0), .int v1] : List Value).toArray s = true := fun w h => S.2.2.2.2 w (List.mem_cons_of_mem _ h)
  have hl : lv_has ls 2 [(0, .ref (ad 0)), (1, .int v1)] := hl
  have hS0 := hS
  obtain ⟨H, hH⟩ : ∃ H, H = s.heap := ⟨_, rfl⟩
  obtain ⟨locs, hlc⟩ : ∃ locs : List Loc, locs = [] := ⟨_, rfl⟩
  have hS : va_S A s.heap H locs := by rw [hH, hlc]; exact hS0
  have hP : va_P (dC, dI) vwCl [(ad 0, .inr (10, oM ad m_undoCount m_thrown m_hasSnapshot a_m_fam m_rows m_lineLength m_formattedLength m_bufferLength m_limit m_next m_beginsAt m_token m_error m_errorAt m_errorPosition m_nested m_codeCount)), ((ad 35), .inl (cI, 200, .inl m_codes))] H := by rw [hH]; exact hP
  suffices hgo : W p l e ({ frames := 0, cells := 0, slots := 0, locals := 0 }) s m ([.ref (ad 0), .int v1] : List Value).toArray below meth c H locs 0 0 (MQ below (gQ dC dI none A [(ad 0, .inr (10, oM ad m_undoCount m_thrown m_hasSnapshot a_m_fam m_rows m_lineLength m_formattedLength m_bufferLength m_limit m_next m_beginsAt m_token m_error m_errorAt m_errorPosition m_nested m_codeCount_9)), ((ad 35), .inl (cI, 200, .inl m_codes_9))]) ([.ref (ad 0), .int v1] : List Value).toArray s 0 0 A) (F0 m 0 ls []) by rw [hH, hlc] at hgo; exact hgo
  rw [p10_emit] at hf
  refine lv_aload_n hx hb dX10_emit_0 rfl (lv_at hl 0 rfl) ?_
  refine va_get (D := (dC, dI)) (ci := 10) (v := .int m_error) (C := RX10) (T := TX10) (N := 37) hx hb htg inX10 hown hE.1 hP 0 rfl rfl 29 (by decide) (htg _ tw1411) (fun _ h9 => h9) rfl dX10_emit_1 ?_
  refine lv_if_ne (tgt := 27) hx hb dX10_emit_4 (by decide) (fun h9 => ?_) (fun h9 => ?_)
  · have hf := itf h9 hf
    cases hf
    exact g_vret S hr hlocks hP hD hS dX10_emit_27
  · have hf := itt h9 hf
    refine lv_aload_n hx hb dX10_emit_7 rfl (lv_at hl 0 rfl) ?_
    refine va_get (D := (dC, dI)) (ci := 10) (v := .ref (ad 35)) (C := RX10) (T := TX10) (N := 37) hx hb htg inX10 hown hE.1 hP 0 rfl rfl 34 (by decide) (htg _ tw1416) (fun _ h9 => h9) rfl dX10_emit_8 ?_
    refine lv_aload_n hx hb dX10_emit_11 rfl (lv_at hl 0 rfl) ?_
    refine va_get (D := (dC, dI)) (ci := 10) (v := .int m_codeCount) (C := RX10) (T := TX10) (N := 37) hx hb htg inX10 hown hE.1 hP 0 rfl rfl 36 (by decide) (htg _ tw1418) (fun _ h9 => h9) rfl dX10_emit_12 ?_
    refine lv_iload_n hx hb dX10_emit_15 rfl (lv_at hl 1 rfl) ?_
    obtain ⟨h9, hf⟩ := gd_s hf
    refine va_iast hx hb hE.1 hP hD hS 1 0 rfl rfl h9 dX10_emit_16 (fun H locs hP hD hS => ?_)
    obtain ⟨g16, h9⟩ : ∃ z, z = (upd m_codes m_codeCount.toNatClampNeg v1) := ⟨_, rfl⟩
    have hf := lb_e h9 hf
    have hP : va_P (dC, dI) vwCl [(ad 0, .inr (10, oM ad m_undoCount m_thrown m_hasSnapshot a_m_fam m_rows m_lineLength m_formattedLength m_bufferLength m_limit m_next m_beginsAt m_token m_error m_errorAt m_errorPosition m_nested m_codeCount)), ((ad 35), .inl (cI, 200, .inl g16))] H := by rw [h9]; exact hP
    have hD : va_D A [(ad 0, .inr (10, oM ad m_undoCount m_thrown m_hasSnapshot a_m_fam m_rows m_lineLength m_formattedLength m_bufferLength m_limit m_next m_beginsAt m_token m_error m_errorAt m_errorPosition m_nested m_codeCount)), ((ad 35), .inl (cI, 200, .inl g16))] := by rw [h9]; exact hD
    refine lv_aload_n hx hb dX10_emit_17 rfl (lv_at hl 0 rfl) ?_
    refine lv_dup hx hb dX10_emit_18 rfl ?_
    refine va_get (D := (dC, dI)) (ci := 10) (v := .int m_codeCount) (C := RX10) (T := TX10) (N := 37) hx hb htg inX10 hown hE.1 hP 0 rfl rfl 36 (by decide) (htg _ tw1418) (fun _ h9 => h9) rfl dX10_emit_19 ?_
    refine lv_iconst (v := 1) hx hb dX10_emit_22 (by decide) ?_
    refine lv_iadd hx hb dX10_emit_23 ?_
    refine lv_topi (fun t24 h9 => ?_)
    have hf := lb_e h9 hf
    refine va_put (D := (dC, dI)) (ci := 10) (v := .int t24) (ty := .int) (C := RX10) (T := TX10) (N := 37) hx hb htg inX10 tyX10 tyX10_ok nmX10 hown hE.1 hP hD hS 0 rfl rfl 36 (by decide) (htg _ tw1418) (fun _ h9 => h9) rfl (by decide +kernel) rfl rfl (Nat.le_of_ble_eq_true rfl) dX10_emit_24 (fun H locs hP hD hS => ?_)
    have hP : va_P (dC, dI) vwCl [(ad 0, .inr (10, oM ad m_undoCount m_thrown m_hasSnapshot a_m_fam m_rows m_lineLength m_formattedLength m_bufferLength m_limit m_next m_beginsAt m_token m_error m_errorAt m_errorPosition m_nested t24)), ((ad 35), .inl (cI, 200, .inl g16))] H := hP
    have hD : va_D A [(ad 0, .inr (10, oM ad m_undoCount m_thrown m_hasSnapshot a_m_fam m_rows m_lineLength m_formattedLength m_bufferLength m_limit m_next m_beginsAt m_token m_error m_errorAt m_errorPosition m_nested t24)), ((ad 35), .inl (cI, 200, .inl g16))] := hD
    cases hf
    exact g_vret S hr hlocks hP hD hS dX10_emit_27
def p10_enter_J19 (m_beginsAt : Int32) (m_buffer : Nat → Int32) (m_limit : Int32) (m_nested : Int32) (m_next : Int32) (m_token : Int32) (m_error_19 : Int32) (m_errorAt_19 : Int32) : Option (Int32 × Int32 × Int32 × Int32 × Int32 × Int32) := lb (m_nested + (1 : Int32)) (fun t26 => ob (p10_advance m_limit m_next m_beginsAt m_token m_error_19 m_buffer) (uc3 fun m_beginsAt_30 m_next_30 m_token_30 => some (m_beginsAt_30, m_error_19, m_errorAt_19, t26, m_next_30, m_token_30)))
def p10_enter (m_limit : Int32) (m_next : Int32) (m_beginsAt : Int32) (m_token : Int32) (m_error : Int32) (m_errorAt : Int32) (m_nested : Int32) (m_buffer : Nat → Int32) : Option (Int32 × Int32 × Int32 × Int32 × Int32 × Int32) := (if (6 : Int32) ≤ m_nested then lb (p10_check m_beginsAt m_error m_errorAt false (3 : Int32)) (uc2 fun m_error_16 m_errorAt_16 => (p10_enter_J19 m_beginsAt m_buffer m_limit m_nested m_next m_token m_error_16 m_errorAt_16)) else lb (p10_check m_beginsAt m_error m_errorAt true (3 : Int32)) (uc2 fun m_error_16 m_errorAt_16 => (p10_enter_J19 m_beginsAt m_buffer m_limit m_nested m_next m_token m_error_16 m_errorAt_16)))
set_option maxHeartbeats 4000000 in
set_option maxRecDepth 100000 in
theorem c_X10_enter (ad : Nat → Nat) (a_m_fam : Nat) (m_undoCount : Int32) (m_thrown : Int32) (m_hasSnapshot : Bool) (m_rows : Int32) (m_lineLength : Int32) (m_formattedLength : Int32) (m_bufferLength : Int32) (m_limit : Int32) (m_next : Int32) (m_beginsAt : Int32) (m_token : Int32) (m_error : Int32) (m_errorAt : Int32) (m_errorPosition : Int32) (m_nested : Int32) (m_codeCount : Int32) (m_buffer : Nat → Int32) (m_beginsAt_9 : Int32) (m_error_9 : Int32) (m_errorAt_9 : Int32) (m_nested_9 : Int32) (m_next_9 : Int32) (m_token_9 : Int32) (hf : p10_enter m_limit m_next m_beginsAt m_token m_error m_errorAt m_nested m_buffer = some (m_beginsAt_9, m_error_9, m_errorAt_9, m_nested_9, m_next_9, m_token_9)) : gM l dC dI cI cJ cZ yX10_enter cX10_enter 1 none (4) (82) [.ref (ad 0)] [(ad 0, .inr (10, oM ad m_undoCount m_thrown m_hasSnapshot a_m_fam m_rows m_lineLength m_formattedLength m_bufferLength m_limit m_next m_beginsAt m_token m_error m_errorAt m_errorPosition m_nested m_codeCount)), ((ad 24), .inl (cI, 800, .inl m_buffer))] [(ad 0, .inr (10, oM ad m_undoCount m_thrown m_hasSnapshot a_m_fam m_rows m_lineLength m_formattedLength m_bufferLength m_limit m_next_9 m_beginsAt_9 m_token_9 m_error_9 m_errorAt_9 m_errorPosition m_nested_9 m_codeCount)), ((ad 24), .inl (cI, 800, .inl m_buffer))] none := by
  refine g_start (own := RX10) (by decide +kernel) rfl (Nat.le_of_ble_eq_true rfl) ?_
  intro p e s m below meth c A ls S hr hlocks hE hP hD hS hA hl hin
  have hx := S.1
  have hb := S.2.1
  have hml := S.2.2.1
  have hown := S.2.2.2.1
  have htg : ∀ z ∈ gw, z.before ([.ref (ad 0)] : List Value).toArray s = true := fun w h => S.2.2.2.2 w (List.mem_cons_of_mem _ h)
  have hl : lv_has ls 1 [(0, .ref (ad 0))] := hl
  have hS0 := hS
  obtain ⟨H, hH⟩ : ∃ H, H = s.heap := ⟨_, rfl⟩
  obtain ⟨locs, hlc⟩ : ∃ locs : List Loc, locs = [] := ⟨_, rfl⟩
  have hS : va_S A s.heap H locs := by rw [hH, hlc]; exact hS0
  have hP : va_P (dC, dI) vwCl [(ad 0, .inr (10, oM ad m_undoCount m_thrown m_hasSnapshot a_m_fam m_rows m_lineLength m_formattedLength m_bufferLength m_limit m_next m_beginsAt m_token m_error m_errorAt m_errorPosition m_nested m_codeCount)), ((ad 24), .inl (cI, 800, .inl m_buffer))] H := by rw [hH]; exact hP
  suffices hgo : W p l e ({ frames := 4, cells := 0, slots := 0, locals := 82 }) s m ([.ref (ad 0)] : List Value).toArray below meth c H locs 0 0 (MQ below (gQ dC dI none A [(ad 0, .inr (10, oM ad m_undoCount m_thrown m_hasSnapshot a_m_fam m_rows m_lineLength m_formattedLength m_bufferLength m_limit m_next_9 m_beginsAt_9 m_token_9 m_error_9 m_errorAt_9 m_errorPosition m_nested_9 m_codeCount)), ((ad 24), .inl (cI, 800, .inl m_buffer))]) ([.ref (ad 0)] : List Value).toArray s 0 0 A) (F0 m 0 ls []) by rw [hH, hlc] at hgo; exact hgo
  rw [p10_enter] at hf
  have J19 : ∀ (m_error_19 : Int32) (m_errorAt_19 : Int32) (H : Heap) (locs : List Loc) (ls : Array Slot), p10_enter_J19 m_beginsAt m_buffer m_limit m_nested m_next m_token m_error_19 m_errorAt_19 = some (m_beginsAt_9, m_error_9, m_errorAt_9, m_nested_9, m_next_9, m_token_9) → va_P (dC, dI) vwCl [(ad 0, .inr (10, oM ad m_undoCount m_thrown m_hasSnapshot a_m_fam m_rows m_lineLength m_formattedLength m_bufferLength m_limit m_next m_beginsAt m_token m_error_19 m_errorAt_19 m_errorPosition m_nested m_codeCount)), ((ad 24), .inl (cI, 800, .inl m_buffer))] H → va_D A [(ad 0, .inr (10, oM ad m_undoCount m_thrown m_hasSnapshot a_m_fam m_rows m_lineLength m_formattedLength m_bufferLength m_limit m_next m_beginsAt m_token m_error_19 m_errorAt_19 m_errorPosition m_nested m_codeCount)), ((ad 24), .inl (cI, 800, .inl m_buffer))] → va_S A s.heap H locs → lv_has ls 1 [(0, .ref (ad 0))] → W p l e ({ frames := 4, cells := 0, slots := 0, locals := 82 }) s m ([.ref (ad 0)] : List Value).toArray below meth c H locs 0 0 (MQ below (gQ dC dI none A [(ad 0, .inr (10, oM ad m_undoCount m_thrown m_hasSnapshot a_m_fam m_rows m_lineLength m_formattedLength m_bufferLength m_limit m_next_9 m_beginsAt_9 m_token_9 m_error_9 m_errorAt_9 m_errorPosition m_nested_9 m_codeCount)), ((ad 24), .inl (cI, 800, .inl m_buffer))]) ([.ref (ad 0)] : List Value).toArray s 0 0 A) (F0 m 19 ls []) := by
    intro m_error_19 m_errorAt_19 H locs ls hf hP hD hS hl
    rw [p10_enter_J19] at hf
    refine lv_aload_n hx hb dX10_enter_19 rfl (lv_at hl 0 rfl) ?_
    refine lv_dup hx hb dX10_enter_20 rfl ?_
    refine va_get (D := (dC, dI)) (ci := 10) (v := .int m_nested) (C := RX10) (T := TX10) (N := 37) hx hb htg inX10 hown hE.1 hP 0 rfl rfl 32 (by decide) (htg _ tw1414) (fun _ h9 => h9) rfl dX10_enter_21 ?_
    refine lv_iconst (v := 1) hx hb dX10_enter_24 (by decide) ?_
    refine lv_iadd hx hb dX10_enter_25 ?_
    refine lv_topi (fun t26 h9 => ?_)
    have hf := lb_e h9 hf
    refine va_put (D := (dC, dI)) (ci := 10) (v := .int t26) (ty := .int) (C := RX10) (T := TX10) (N := 37) hx hb htg inX10 tyX10 tyX10_ok nmX10 hown hE.1 hP hD hS 0 rfl rfl 32 (by decide) (htg _ tw1414) (fun _ h9 => h9) rfl (by decide +kernel) rfl rfl (Nat.le_of_ble_eq_true rfl) dX10_enter_26 (fun H locs hP hD hS => ?_)
    have hP : va_P (dC, dI) vwCl [(ad 0, .inr (10, oM ad m_undoCount m_thrown m_hasSnapshot a_m_fam m_rows m_lineLength m_formattedLength m_bufferLength m_limit m_next m_beginsAt m_token m_error_19 m_errorAt_19 m_errorPosition t26 m_codeCount)), ((ad 24), .inl (cI, 800, .inl m_buffer))] H := hP
    have hD : va_D A [(ad 0, .inr (10, oM ad m_undoCount m_thrown m_hasSnapshot a_m_fam m_rows m_lineLength m_formattedLength m_bufferLength m_limit m_next m_beginsAt m_token m_error_19 m_errorAt_19 m_errorPosition t26 m_codeCount)), ((ad 24), .inl (cI, 800, .inl m_buffer))] := hD
    refine lv_aload_n hx hb dX10_enter_29 rfl (lv_at hl 0 rfl) ?_
    obtain ⟨⟨m_beginsAt_30, m_next_30, m_token_30⟩, h9, hf⟩ := ob_s hf
    have hf := uc3_e hf
    refine gcV (index := 419) S hE (c_X10_advance ad a_m_fam m_undoCount m_thrown m_hasSnapshot m_rows m_lineLength m_formattedLength m_bufferLength m_limit m_next m_beginsAt m_token m_error_19 m_errorAt_19 m_errorPosition t26 m_codeCount m_buffer m_beginsAt_30 m_next_30 m_token_30 h9) mX10_advance tw1976 ⟨Nat.le_of_ble_eq_true rfl, Nat.le_of_ble_eq_true rfl⟩ hP hD hS hA ⟨Nat.zero_le _, Nat.zero_le _⟩ 0 10 rfl rfl rfl (wr := []) [0, 1] [] rfl rfl rfl rfl (by decide) (As := []) (rest := []) rfl hl.1 rfl (Nat.le_of_ble_eq_true rfl) dX10_enter_30 (fun H locs hP hD hS => ?_)
    refine W.eq (g2 := F0 m 33 ls []) rfl ?_
    have hP : va_P (dC, dI) vwCl [(ad 0, .inr (10, oM ad m_undoCount m_thrown m_hasSnapshot a_m_fam m_rows m_lineLength m_formattedLength m_bufferLength m_limit m_next_30 m_beginsAt_30 m_token_30 m_error_19 m_errorAt_19 m_errorPosition t26 m_codeCount)), ((ad 24), .inl (cI, 800, .inl m_buffer))] H := hP
    have hD : va_D A [(ad 0, .inr (10, oM ad m_undoCount m_thrown m_hasSnapshot a_m_fam m_rows m_lineLength m_formattedLength m_bufferLength m_limit m_next_30 m_beginsAt_30 m_token_30 m_error_19 m_errorAt_19 m_errorPosition t26 m_codeCount)), ((ad 24), .inl (cI, 800, .inl m_buffer))] := hD
    cases hf
    exact g_vret S hr hlocks hP hD hS dX10_enter_33
  refine lv_aload_n hx hb dX10_enter_0 rfl (lv_at hl 0 rfl) ?_
  refine lv_aload_n hx hb dX10_enter_1 rfl (lv_at hl 0 rfl) ?_
  refine va_get (D := (dC, dI)) (ci := 10) (v := .int m_nested) (C := RX10) (T := TX10) (N := 37) hx hb htg inX10 hown hE.1 hP 0 rfl rfl 32 (by decide) (htg _ tw1414) (fun _ h9 => h9) rfl dX10_enter_2 ?_
  refine lv_bipush (v := 6) hx hb dX10_enter_5 (by decide) ?_
  refine lv_icmp_ge (tgt := 14) hx hb dX10_enter_7 (by decide) (fun h9 => ?_) (fun h9 => ?_)
  · have hf := itt h9 hf
    refine lv_iconst (v := 0) hx hb dX10_enter_14 (by decide) ?_
    refine lv_iconst (v := 3) hx hb dX10_enter_15 (by decide) ?_
    obtain ⟨m_error_16, m_errorAt_16, h9⟩ : ∃ m_error_16 m_errorAt_16, p10_check m_beginsAt m_error m_errorAt false (3 : Int32) = (m_error_16, m_errorAt_16) := ⟨_, _, rfl⟩
    have hf := uc2_e (lb_e h9.symm hf)
    refine gcV (index := 415) S hE (c_X10_check ad a_m_fam m_undoCount m_thrown m_hasSnapshot m_rows m_lineLength m_formattedLength m_bufferLength m_limit m_next m_beginsAt m_token m_error m_errorAt m_errorPosition m_nested m_codeCount false (3 : Int32) m_error_16 m_errorAt_16 h9) mX10_check tw1968 ⟨Nat.le_of_ble_eq_true rfl, Nat.le_of_ble_eq_true rfl⟩ hP hD hS hA ⟨Nat.zero_le _, Nat.zero_le _⟩ 0 10 rfl rfl rfl (wr := [((ad 24), .inl (cI, 800, .inl m_buffer))]) [0] [1] rfl rfl rfl rfl (by decide) (As := [.int (bI false), .int (3 : Int32)]) (rest := []) rfl hl.1 rfl (Nat.le_of_ble_eq_true rfl) dX10_enter_16 (fun H locs hP hD hS => ?_)
    refine W.eq (g2 := F0 m 19 ls []) rfl ?_
    have hP : va_P (dC, dI) vwCl [((ad 24), .inl (cI, 800, .inl m_buffer)), (ad 0, .inr (10, oM ad m_undoCount m_thrown m_hasSnapshot a_m_fam m_rows m_lineLength m_formattedLength m_bufferLength m_limit m_next m_beginsAt m_token m_error_16 m_errorAt_16 m_errorPosition m_nested m_codeCount))] H := hP
    have hD : va_D A [((ad 24), .inl (cI, 800, .inl m_buffer)), (ad 0, .inr (10, oM ad m_undoCount m_thrown m_hasSnapshot a_m_fam m_rows m_lineLength m_formattedLength m_bufferLength m_limit m_next m_beginsAt m_token m_error_16 m_errorAt_16 m_errorPosition m_nested m_codeCount))] := hD
    exact J19 m_error_16 m_errorAt_16 H locs ls hf (hP.sub [1, 0] rfl) (hD.sub [1, 0] (by decide) rfl) hS (lv_sub hl [0] rfl)
  · have hf := itf h9 hf
    refine lv_iconst (v := 1) hx hb dX10_enter_10 (by decide) ?_
    refine lv_goto (tgt := 15) hx hb dX10_enter_11 (by decide) ?_
    refine lv_iconst (v := 3) hx hb dX10_enter_15 (by decide) ?_
    obtain ⟨m_error_16, m_errorAt_16, h9⟩ : ∃ m_error_16 m_errorAt_16, p10_check m_beginsAt m_error m_errorAt true (3 : Int32) = (m_error_16, m_errorAt_16) := ⟨_, _, rfl⟩
    have hf := uc2_e (lb_e h9.symm hf)
    refine gcV (index := 415) S hE (c_X10_check ad a_m_fam m_undoCount m_thrown m_hasSnapshot m_rows m_lineLength m_formattedLength m_bufferLength m_limit m_next m_beginsAt m_token m_error m_errorAt m_errorPosition m_nested m_codeCount true (3 : Int32) m_error_16 m_errorAt_16 h9) mX10_check tw1968 ⟨Nat.le_of_ble_eq_true rfl, Nat.le_of_ble_eq_true rfl⟩ hP hD hS hA ⟨Nat.zero_le _, Nat.zero_le _⟩ 0 10 rfl rfl rfl (wr := [((ad 24), .inl (cI, 800, .inl m_buffer))]) [0] [1] rfl rfl rfl rfl (by decide) (As := [.int (bI true), .int (3 : Int32)]) (rest := []) rfl hl.1 rfl (Nat.le_of_ble_eq_true rfl) dX10_enter_16 (fun H locs hP hD hS => ?_)
    refine W.eq (g2 := F0 m 19 ls []) rfl ?_
    have hP : va_P (dC, dI) vwCl [((ad 24), .inl (cI, 800, .inl m_buffer)), (ad 0, .inr (10, oM ad m_undoCount m_thrown m_hasSnapshot a_m_fam m_rows m_lineLength m_formattedLength m_bufferLength m_limit m_next m_beginsAt m_token m_error_16 m_errorAt_16 m_errorPosition m_nested m_codeCount))] H := hP
    have hD : va_D A [((ad 24), .inl (cI, 800, .inl m_buffer)), (ad 0, .inr (10, oM ad m_undoCount m_thrown m_hasSnapshot a_m_fam m_rows m_lineLength m_formattedLength m_bufferLength m_limit m_next m_beginsAt m_token m_error_16 m_errorAt_16 m_errorPosition m_nested m_codeCount))] := hD
    exact J19 m_error_16 m_errorAt_16 H locs ls hf (hP.sub [1, 0] rfl) (hD.sub [1, 0] (by decide) rfl) hS (lv_sub hl [0] rfl)
def p10_compileValue_J77 (m_beginsAt : Int32) (m_buffer : Nat → Int32) (m_codeCount : Int32) (m_codes : Nat → Int32) (m_limit : Int32) (m_next : Int32) (m_token : Int32) (v1_77 : Int32) (m_error_77 : Int32) (m_errorAt_77 : Int32) : Option (Int32 × Int32 × (Nat → Int32) × Int32 × Int32 × Int32 × Int32) := ob (p10_emit m_error_77 m_codeCount m_codes ((-1 : Int32) - v1_77)) (uc2 fun m_codeCount_81 m_codes_81 => ob (p10_advance m_limit m_next m_beginsAt m_token m_error_77 m_buffer) (uc3 fun m_beginsAt_85 m_next_85 m_token_85 => some (m_beginsAt_85, m_codeCount_81, m_codes_81, m_error_77, m_errorAt_77, m_next_85, m_token_85)))
def p10_compileValue_J58 (m_beginsAt : Int32) (m_buffer : Nat → Int32) (m_codeCount : Int32) (m_codes : Nat → Int32) (m_error : Int32) (m_errorAt : Int32) (m_limit : Int32) (m_next : Int32) (m_token : Int32) (v1_58 : Int32) : Option (Int32 × Int32 × (Nat → Int32) × Int32 × Int32 × Int32 × Int32) := (if (7 : Int32) ≤ v1_58 then lb (p10_check m_beginsAt m_error m_errorAt false (1 : Int32)) (uc2 fun m_error_74 m_errorAt_74 => (p10_compileValue_J77 m_beginsAt m_buffer m_codeCount m_codes m_limit m_next m_token v1_58 m_error_74 m_errorAt_74)) else lb (p10_check m_beginsAt m_error m_errorAt true (1 : Int32)) (uc2 fun m_error_74 m_errorAt_74 => (p10_compileValue_J77 m_beginsAt m_buffer m_codeCount m_codes m_limit m_next m_token v1_58 m_error_74 m_errorAt_74)))
def p10_compileValue_J15 (m_beginsAt : Int32) (m_buffer : Nat → Int32) (m_codeCount : Int32) (m_codes : Nat → Int32) (m_error : Int32) (m_errorAt : Int32) (m_limit : Int32) (m_next : Int32) (m_token : Int32) : Option (Int32 × Int32 × (Nat → Int32) × Int32 × Int32 × Int32 × Int32) := ob (p10_readNumber m_limit m_next m_beginsAt m_token m_error m_errorAt m_buffer (0 : Int32) (99999 : Int32)) (uc6 fun r21 m_beginsAt_21 m_error_21 m_errorAt_21 m_next_21 m_token_21 => ob (p10_emit m_error_21 m_codeCount m_codes r21) (uc2 fun m_codeCount_24 m_codes_24 => some (m_beginsAt_21, m_codeCount_24, m_codes_24, m_error_21, m_errorAt_21, m_next_21, m_token_21)))
def p10_compileValue_L30_B (m_beginsAt : Int32) (m_buffer : Nat → Int32) (m_error : Int32) (m_next : Int32) (m_token : Int32) (k30 : Int32 → Option (Int32)) (v1_30 : Int32) : Option (Int32) := (if (7 : Int32) ≤ v1_30 then some v1_30 else gd v1_30 7 (ob (p10_isWord m_next m_beginsAt m_token m_error m_buffer (nmW v1_30.toNatClampNeg)) (fun r46 => (cond r46 (some v1_30) (lb (v1_30 + (1 : Int32)) (fun t52 => (k30 t52)))))))
def p10_compileValue_L30 (m_beginsAt : Int32) (m_buffer : Nat → Int32) (m_error : Int32) (m_next : Int32) (m_token : Int32) : Nat → Int32 → Option (Int32)
  | 0, _ => none
  | n+1, v1_30 => p10_compileValue_L30_B m_beginsAt m_buffer m_error m_next m_token (p10_compileValue_L30 m_beginsAt m_buffer m_error m_next m_token n) v1_30
def p10_compileValue (m_limit : Int32) (m_next : Int32) (m_beginsAt : Int32) (m_token : Int32) (m_error : Int32) (m_errorAt : Int32) (m_codeCount : Int32) (m_buffer : Nat → Int32) (m_codes : Nat → Int32) : Option (Int32 × Int32 × (Nat → Int32) × Int32 × Int32 × Int32 × Int32) := (if m_error = (0 : Int32) then (if m_token = (2 : Int32) then (p10_compileValue_J15 m_beginsAt m_buffer m_codeCount m_codes m_error m_errorAt m_limit m_next m_token) else (ob (p10_compileValue_L30 m_beginsAt m_buffer m_error m_next m_token FU (0 : Int32)) (fun v1_x30 => p10_compileValue_J58 m_beginsAt m_buffer m_codeCount m_codes m_error m_errorAt m_limit m_next m_token v1_x30))) else (p10_compileValue_J15 m_beginsAt m_buffer m_codeCount m_codes m_error m_errorAt m_limit m_next m_token))
set_option maxHeartbeats 4000000 in
set_option maxRecDepth 100000 in
theorem c_X10_compileValue (ad : Nat → Nat) (hNm : gNm adV ad) (a_m_fam : Nat) (m_undoCount : Int32) (m_thrown : Int32) (m_hasSnapshot : Bool) (m_rows : Int32) (m_lineLength : Int32) (m_formattedLength : Int32) (m_bufferLength : Int32) (m_limit : Int32) (m_next : Int32) (m_beginsAt : Int32) (m_token : Int32) (m_error : Int32) (m_errorAt : Int32) (m_errorPosition : Int32) (m_nested : Int32) (m_codeCount : Int32) (m_buffer : Nat → Int32) (m_codes : Nat → Int32) (m_beginsAt_9 : Int32) (m_codeCount_9 : Int32) (m_codes_9 : Nat → Int32) (m_error_9 : Int32) (m_errorAt_9 : Int32) (m_next_9 : Int32) (m_token_9 : Int32) (hf : p10_compileValue m_limit m_next m_beginsAt m_token m_error m_errorAt m_codeCount m_buffer m_codes = some (m_beginsAt_9, m_codeCount_9, m_codes_9, m_error_9, m_errorAt_9, m_next_9, m_token_9)) : gMH l dC dI cI cJ cZ adK adV yX10_compileValue cX10_compileValue 2 none (5) (108) [.ref (ad 0)] [(ad 0, .inr (10, oM ad m_undoCount m_thrown m_hasSnapshot a_m_fam m_rows m_lineLength m_formattedLength m_bufferLength m_limit m_next m_beginsAt m_token m_error m_errorAt m_errorPosition m_nested m_codeCount)), ((ad 24), .inl (cI, 800, .inl m_buffer)), ((ad 35), .inl (cI, 200, .inl m_codes))] [(ad 0, .inr (10, oM ad m_undoCount m_thrown m_hasSnapshot a_m_fam m_rows m_lineLength m_formattedLength m_bufferLength m_limit m_next_9 m_beginsAt_9 m_token_9 m_error_9 m_errorAt_9 m_errorPosition m_nested m_codeCount_9)), ((ad 24), .inl (cI, 800, .inl m_buffer)), ((ad 35), .inl (cI, 200, .inl m_codes_9))] none := by
  refine g_startH (own := RX10) (by decide +kernel) rfl (Nat.le_of_ble_eq_true rfl) ?_
  intro p e s m below meth c A ls S hr hlocks hE hG hP hD hS hA hl hin
  have hTN := gNm_T hNm hG
  have hx := S.1
  have hb := S.2.1
  have hml := S.2.2.1
  have hown := S.2.2.2.1
  have htg : ∀ z ∈ gw, z.before ([.ref (ad 0)] : List Value).toArray s = true := fun w h => S.2.2.2.2 w (List.mem_cons_of_mem _ h)
  have hl : lv_has ls 2 [(0, .ref (ad 0))] := hl
  have hS0 := hS
  obtain ⟨H, hH⟩ : ∃ H, H = s.heap := ⟨_, rfl⟩
  obtain ⟨locs, hlc⟩ : ∃ locs : List Loc, locs = [] := ⟨_, rfl⟩
  have hS : va_S A s.heap H locs := by rw [hH, hlc]; exact hS0
  have hP : va_P (dC, dI) vwCl [(ad 0, .inr (10, oM ad m_undoCount m_thrown m_hasSnapshot a_m_fam m_rows m_lineLength m_formattedLength m_bufferLength m_limit m_next m_beginsAt m_token m_error m_errorAt m_errorPosition m_nested m_codeCount)), ((ad 24), .inl (cI, 800, .inl m_buffer)), ((ad 35), .inl (cI, 200, .inl m_codes))] H := by rw [hH]; exact hP
  suffices hgo : W p l e ({ frames := 5, cells := 0, slots := 0, locals := 108 }) s m ([.ref (ad 0)] : List Value).toArray below meth c H locs 0 0 (MQ below (gQ dC dI none A [(ad 0, .inr (10, oM ad m_undoCount m_thrown m_hasSnapshot a_m_fam m_rows m_lineLength m_formattedLength m_bufferLength m_limit m_next_9 m_beginsAt_9 m_token_9 m_error_9 m_errorAt_9 m_errorPosition m_nested m_codeCount_9)), ((ad 24), .inl (cI, 800, .inl m_buffer)), ((ad 35), .inl (cI, 200, .inl m_codes_9))]) ([.ref (ad 0)] : List Value).toArray s 0 0 A) (F0 m 0 ls []) by rw [hH, hlc] at hgo; exact hgo
  rw [p10_compileValue] at hf
  have J77 : ∀ (v1_77 : Int32) (m_error_77 : Int32) (m_errorAt_77 : Int32) (H : Heap) (locs : List Loc) (ls : Array Slot), p10_compileValue_J77 m_beginsAt m_buffer m_codeCount m_codes m_limit m_next m_token v1_77 m_error_77 m_errorAt_77 = some (m_beginsAt_9, m_codeCount_9, m_codes_9, m_error_9, m_errorAt_9, m_next_9, m_token_9) → va_P (dC, dI) vwCl [(ad 0, .inr (10, oM ad m_undoCount m_thrown m_hasSnapshot a_m_fam m_rows m_lineLength m_formattedLength m_bufferLength m_limit m_next m_beginsAt m_token m_error_77 m_errorAt_77 m_errorPosition m_nested m_codeCount)), ((ad 24), .inl (cI, 800, .inl m_buffer)), ((ad 35), .inl (cI, 200, .inl m_codes))] H → va_D A [(ad 0, .inr (10, oM ad m_undoCount m_thrown m_hasSnapshot a_m_fam m_rows m_lineLength m_formattedLength m_bufferLength m_limit m_next m_beginsAt m_token m_error_77 m_errorAt_77 m_errorPosition m_nested m_codeCount)), ((ad 24), .inl (cI, 800, .inl m_buffer)), ((ad 35), .inl (cI, 200, .inl m_codes))] → va_S A s.heap H locs → lv_has ls 2 [(0, .ref (ad 0)), (1, .int v1_77)] → W p l e ({ frames := 5, cells := 0, slots := 0, locals := 108 }) s m ([.ref (ad 0)] : List Value).toArray below meth c H locs 0 0 (MQ below (gQ dC dI none A [(ad 0, .inr (10, oM ad m_undoCount m_thrown m_hasSnapshot a_m_fam m_rows m_lineLength m_formattedLength m_bufferLength m_limit m_next_9 m_beginsAt_9 m_token_9 m_error_9 m_errorAt_9 m_errorPosition m_nested m_codeCount_9)), ((ad 24), .inl (cI, 800, .inl m_buffer)), ((ad 35), .inl (cI, 200, .inl m_codes_9))]) ([.ref (ad 0)] : List Value).toArray s 0 0 A) (F0 m 77 ls []) := by
    intro v1_77 m_error_77 m_errorAt_77 H locs ls hf hP hD hS hl
    rw [p10_compileValue_J77] at hf
    refine lv_aload_n hx hb dX10_compileValue_77 rfl (lv_at hl 0 rfl) ?_
    refine lv_iconst (v := -1) hx hb dX10_compileValue_78 (by decide) ?_
    refine lv_iload_n hx hb dX10_compileValue_79 rfl (lv_at hl 1 rfl) ?_
    refine lv_isub hx hb dX10_compileValue_80 ?_
    obtain ⟨⟨m_codeCount_81, m_codes_81⟩, h9, hf⟩ := ob_s hf
    have hf := uc2_e hf
    refine gcV (index := 474) S hE (c_X10_emit ad a_m_fam m_undoCount m_thrown m_hasSnapshot m_rows m_lineLength m_formattedLength m_bufferLength m_limit m_next m_beginsAt m_token m_error_77 m_errorAt_77 m_errorPosition m_nested m_codeCount m_codes ((-1 : Int32) - v1_77) m_codeCount_81 m_codes_81 h9) mX10_emit tw2047 ⟨Nat.le_of_ble_eq_true rfl, Nat.le_of_ble_eq_true rfl⟩ hP hD hS hA ⟨Nat.zero_le _, Nat.zero_le _⟩ 0 10 rfl rfl rfl (wr := [((ad 24), .inl (cI, 800, .inl m_buffer))]) [0, 2] [1] rfl rfl rfl rfl (by decide) (As := [.int ((-1 : Int32) - v1_77)]) (rest := []) rfl hl.1 rfl (Nat.le_of_ble_eq_true rfl) dX10_compileValue_81 (fun H locs hP hD hS => ?_)
    refine W.eq (g2 := F0 m 84 ls []) rfl ?_
    have hP : va_P (dC, dI) vwCl [((ad 24), .inl (cI, 800, .inl m_buffer)), (ad 0, .inr (10, oM ad m_undoCount m_thrown m_hasSnapshot a_m_fam m_rows m_lineLength m_formattedLength m_bufferLength m_limit m_next m_beginsAt m_token m_error_77 m_errorAt_77 m_errorPosition m_nested m_codeCount_81)), ((ad 35), .inl (cI, 200, .inl m_codes_81))] H := hP
    have hD : va_D A [((ad 24), .inl (cI, 800, .inl m_buffer)), (ad 0, .inr (10, oM ad m_undoCount m_thrown m_hasSnapshot a_m_fam m_rows m_lineLength m_formattedLength m_bufferLength m_limit m_next m_beginsAt m_token m_error_77 m_errorAt_77 m_errorPosition m_nested m_codeCount_81)), ((ad 35), .inl (cI, 200, .inl m_codes_81))] := hD
    refine lv_aload_n hx hb dX10_compileValue_84 rfl (lv_at hl 0 rfl) ?_
    obtain ⟨⟨m_beginsAt_85, m_next_85, m_token_85⟩, h9, hf⟩ := ob_s hf
    have hf := uc3_e hf
    refine gcV (index := 419) S hE (c_X10_advance ad a_m_fam m_undoCount m_thrown m_hasSnapshot m_rows m_lineLength m_formattedLength m_bufferLength m_limit m_next m_beginsAt m_token m_error_77 m_errorAt_77 m_errorPosition m_nested m_codeCount_81 m_buffer m_beginsAt_85 m_next_85 m_token_85 h9) mX10_advance tw1976 ⟨Nat.le_of_ble_eq_true rfl, Nat.le_of_ble_eq_true rfl⟩ hP hD hS hA ⟨Nat.zero_le _, Nat.zero_le _⟩ 1 10 rfl rfl rfl (wr := [((ad 35), .inl (cI, 200, .inl m_codes_81))]) [1, 0] [2] rfl rfl rfl rfl (by decide) (As := []) (rest := []) rfl hl.1 rfl (Nat.le_of_ble_eq_true rfl) dX10_compileValue_85 (fun H locs hP hD hS => ?_)
    refine W.eq (g2 := F0 m 88 ls []) rfl ?_
    have hP : va_P (dC, dI) vwCl [((ad 35), .inl (cI, 200, .inl m_codes_81)), (ad 0, .inr (10, oM ad m_undoCount m_thrown m_hasSnapshot a_m_fam m_rows m_lineLength m_formattedLength m_bufferLength m_limit m_next_85 m_beginsAt_85 m_token_85 m_error_77 m_errorAt_77 m_errorPosition m_nested m_codeCount_81)), ((ad 24), .inl (cI, 800, .inl m_buffer))] H := hP
    have hD : va_D A [((ad 35), .inl (cI, 200, .inl m_codes_81)), (ad 0, .inr (10, oM ad m_undoCount m_thrown m_hasSnapshot a_m_fam m_rows m_lineLength m_formattedLength m_bufferLength m_limit m_next_85 m_beginsAt_85 m_token_85 m_error_77 m_errorAt_77 m_errorPosition m_nested m_codeCount_81)), ((ad 24), .inl (cI, 800, .inl m_buffer))] := hD
    cases hf
    exact g_vret S hr hlocks (hP.sub [1, 2, 0] rfl) (hD.sub [1, 2, 0] (by decide) rfl) hS dX10_compileValue_88
  have J58 : ∀ (v1_58 : Int32) (H : Heap) (locs : List Loc) (ls : Array Slot), p10_compileValue_J58 m_beginsAt m_buffer m_codeCount m_codes m_error m_errorAt m_limit m_next m_token v1_58 = some (m_beginsAt_9, m_codeCount_9, m_codes_9, m_error_9, m_errorAt_9, m_next_9, m_token_9) → va_P (dC, dI) vwCl [(ad 0, .inr (10, oM ad m_undoCount m_thrown m_hasSnapshot a_m_fam m_rows m_lineLength m_formattedLength m_bufferLength m_limit m_next m_beginsAt m_token m_error m_errorAt m_errorPosition m_nested m_codeCount)), ((ad 24), .inl (cI, 800, .inl m_buffer)), ((ad 35), .inl (cI, 200, .inl m_codes))] H → va_D A [(ad 0, .inr (10, oM ad m_undoCount m_thrown m_hasSnapshot a_m_fam m_rows m_lineLength m_formattedLength m_bufferLength m_limit m_next m_beginsAt m_token m_error m_errorAt m_errorPosition m_nested m_codeCount)), ((ad 24), .inl (cI, 800, .inl m_buffer)), ((ad 35), .inl (cI, 200, .inl m_codes))] → va_S A s.heap H locs → lv_has ls 2 [(0, .ref (ad 0)), (1, .int v1_58)] → W p l e ({ frames := 5, cells := 0, slots := 0, locals := 108 }) s m ([.ref (ad 0)] : List Value).toArray below meth c H locs 0 0 (MQ below (gQ dC dI none A [(ad 0, .inr (10, oM ad m_undoCount m_thrown m_hasSnapshot a_m_fam m_rows m_lineLength m_formattedLength m_bufferLength m_limit m_next_9 m_beginsAt_9 m_token_9 m_error_9 m_errorAt_9 m_errorPosition m_nested m_codeCount_9)), ((ad 24), .inl (cI, 800, .inl m_buffer)), ((ad 35), .inl (cI, 200, .inl m_codes_9))]) ([.ref (ad 0)] : List Value).toArray s 0 0 A) (F0 m 58 ls []) := by
    intro v1_58 H locs ls hf hP hD hS hl
    rw [p10_compileValue_J58] at hf
    refine lv_aload_n hx hb dX10_compileValue_58 rfl (lv_at hl 0 rfl) ?_
    refine lv_iload_n hx hb dX10_compileValue_59 rfl (lv_at hl 1 rfl) ?_
    refine lv_aload_n hx hb dX10_compileValue_60 rfl (lv_at hl 0 rfl) ?_
    refine va_get (D := (dC, dI)) (ci := 10) (v := .ref (ad 34)) (C := RX10) (T := TX10) (N := 37) hx hb htg inX10 hown hE.1 hP 0 rfl rfl 33 (by decide) (htg _ tw1415) (fun _ h9 => h9) rfl dX10_compileValue_61 ?_
    refine va_tlen (v := (7 : Int32)) hx hb hTN hS rfl dX10_compileValue_64 ?_
    refine lv_icmp_ge (tgt := 72) hx hb dX10_compileValue_65 (by decide) (fun h9 => ?_) (fun h9 => ?_)
    · have hf := itt h9 hf
      refine lv_iconst (v := 0) hx hb dX10_compileValue_72 (by decide) ?_
      refine lv_iconst (v := 1) hx hb dX10_compileValue_73 (by decide) ?_
      obtain ⟨m_error_74, m_errorAt_74, h9⟩ : ∃ m_error_74 m_errorAt_74, p10_check m_beginsAt m_error m_errorAt false (1 : Int32) = (m_error_74, m_errorAt_74) := ⟨_, _, rfl⟩
      have hf := uc2_e (lb_e h9.symm hf)
      refine gcV (index := 415) S hE (c_X10_check ad a_m_fam m_undoCount m_thrown m_hasSnapshot m_rows m_lineLength m_formattedLength m_bufferLength m_limit m_next m_beginsAt m_token m_error m_errorAt m_errorPosition m_nested m_codeCount false (1 : Int32) m_error_74 m_errorAt_74 h9) mX10_check tw1968 ⟨Nat.le_of_ble_eq_true rfl, Nat.le_of_ble_eq_true rfl⟩ hP hD hS hA ⟨Nat.zero_le _, Nat.zero_le _⟩ 0 10 rfl rfl rfl (wr := [((ad 24), .inl (cI, 800, .inl m_buffer)), ((ad 35), .inl (cI, 200, .inl m_codes))]) [0] [1, 2] rfl rfl rfl rfl (by decide) (As := [.int (bI false), .int (1 : Int32)]) (rest := []) rfl hl.1 rfl (Nat.le_of_ble_eq_true rfl) dX10_compileValue_74 (fun H locs hP hD hS => ?_)
      refine W.eq (g2 := F0 m 77 ls []) rfl ?_
      have hP : va_P (dC, dI) vwCl [((ad 24), .inl (cI, 800, .inl m_buffer)), ((ad 35), .inl (cI, 200, .inl m_codes)), (ad 0, .inr (10, oM ad m_undoCount m_thrown m_hasSnapshot a_m_fam m_rows m_lineLength m_formattedLength m_bufferLength m_limit m_next m_beginsAt m_token m_error_74 m_errorAt_74 m_errorPosition m_nested m_codeCount))] H := hP
      have hD : va_D A [((ad 24), .inl (cI, 800, .inl m_buffer)), ((ad 35), .inl (cI, 200, .inl m_codes)), (ad 0, .inr (10, oM ad m_undoCount m_thrown m_hasSnapshot a_m_fam m_rows m_lineLength m_formattedLength m_bufferLength m_limit m_next m_beginsAt m_token m_error_74 m_errorAt_74 m_errorPosition m_nested m_codeCount))] := hD
      exact J77 v1_58 m_error_74 m_errorAt_74 H locs ls hf (hP.sub [2, 0, 1] rfl) (hD.sub [2, 0, 1] (by decide) rfl) hS (lv_sub hl [0, 1] rfl)
    · have hf := itf h9 hf
      refine lv_iconst (v := 1) hx hb dX10_compileValue_68 (by decide) ?_
      refine lv_goto (tgt := 73) hx hb dX10_compileValue_69 (by decide) ?_
      refine lv_iconst (v := 1) hx hb dX10_compileValue_73 (by decide) ?_
      obtain ⟨m_error_74, m_errorAt_74, h9⟩ : ∃ m_error_74 m_errorAt_74, p10_check m_beginsAt m_error m_errorAt true (1 : Int32) = (m_error_74, m_errorAt_74) := ⟨_, _, rfl⟩
      have hf := uc2_e (lb_e h9.symm hf)
      refine gcV (index := 415) S hE (c_X10_check ad a_m_fam m_undoCount m_thrown m_hasSnapshot m_rows m_lineLength m_formattedLength m_bufferLength m_limit m_next m_beginsAt m_token m_error m_errorAt m_errorPosition m_nested m_codeCount true (1 : Int32) m_error_74 m_errorAt_74 h9) mX10_check tw1968 ⟨Nat.le_of_ble_eq_true rfl, Nat.le_of_ble_eq_true rfl⟩ hP hD hS hA ⟨Nat.zero_le _, Nat.zero_le _⟩ 0 10 rfl rfl rfl (wr := [((ad 24), .inl (cI, 800, .inl m_buffer)), ((ad 35), .inl (cI, 200, .inl m_codes))]) [0] [1, 2] rfl rfl rfl rfl (by decide) (As := [.int (bI true), .int (1 : Int32)]) (rest := []) rfl hl.1 rfl (Nat.le_of_ble_eq_true rfl) dX10_compileValue_74 (fun H locs hP hD hS => ?_)
      refine W.eq (g2 := F0 m 77 ls []) rfl ?_
      have hP : va_P (dC, dI) vwCl [((ad 24), .inl (cI, 800, .inl m_buffer)), ((ad 35), .inl (cI, 200, .inl m_codes)), (ad 0, .inr (10, oM ad m_undoCount m_thrown m_hasSnapshot a_m_fam m_rows m_lineLength m_formattedLength m_bufferLength m_limit m_next m_beginsAt m_token m_error_74 m_errorAt_74 m_errorPosition m_nested m_codeCount))] H := hP
      have hD : va_D A [((ad 24), .inl (cI, 800, .inl m_buffer)), ((ad 35), .inl (cI, 200, .inl m_codes)), (ad 0, .inr (10, oM ad m_undoCount m_thrown m_hasSnapshot a_m_fam m_rows m_lineLength m_formattedLength m_bufferLength m_limit m_next m_beginsAt m_token m_error_74 m_errorAt_74 m_errorPosition m_nested m_codeCount))] := hD
      exact J77 v1_58 m_error_74 m_errorAt_74 H locs ls hf (hP.sub [2, 0, 1] rfl) (hD.sub [2, 0, 1] (by decide) rfl) hS (lv_sub hl [0, 1] rfl)
  have J15 : ∀  (H : Heap) (locs : List Loc) (ls : Array Slot), p10_compileValue_J15 m_beginsAt m_buffer m_codeCount m_codes m_error m_errorAt m_limit m_next m_token = some (m_beginsAt_9, m_codeCount_9, m_codes_9, m_error_9, m_errorAt_9, m_next_9, m_token_9) → va_P (dC, dI) vwCl [(ad 0, .inr (10, oM ad m_undoCount m_thrown m_hasSnapshot a_m_fam m_rows m_lineLength m_formattedLength m_bufferLength m_limit m_next m_beginsAt m_token m_error m_errorAt m_errorPosition m_nested m_codeCount)), ((ad 24), .inl (cI, 800, .inl m_buffer)), ((ad 35), .inl (cI, 200, .inl m_codes))] H → va_D A [(ad 0, .inr (10, oM ad m_undoCount m_thrown m_hasSnapshot a_m_fam m_rows m_lineLength m_formattedLength m_bufferLength m_limit m_next m_beginsAt m_token m_error m_errorAt m_errorPosition m_nested m_codeCount)), ((ad 24), .inl (cI, 800, .inl m_buffer)), ((ad 35), .inl (cI, 200, .inl m_codes))] → va_S A s.heap H locs → lv_has ls 2 [(0, .ref (ad 0))] → W p l e ({ frames := 5, cells := 0, slots := 0, locals := 108 }) s m ([.ref (ad 0)] : List Value).toArray below meth c H locs 0 0 (MQ below (gQ dC dI none A [(ad 0, .inr (10, oM ad m_undoCount m_thrown m_hasSnapshot a_m_fam m_rows m_lineLength m_formattedLength m_bufferLength m_limit m_next_9 m_beginsAt_9 m_token_9 m_error_9 m_errorAt_9 m_errorPosition m_nested m_codeCount_9)), ((ad 24), .inl (cI, 800, .inl m_buffer)), ((ad 35), .inl (cI, 200, .inl m_codes_9))]) ([.ref (ad 0)] : List Value).toArray s 0 0 A) (F0 m 15 ls []) := by
    intro  H locs ls hf hP hD hS hl
    rw [p10_compileValue_J15] at hf
    refine lv_aload_n hx hb dX10_compileValue_15 rfl (lv_at hl 0 rfl) ?_
    refine lv_aload_n hx hb dX10_compileValue_16 rfl (lv_at hl 0 rfl) ?_
    refine lv_iconst (v := 0) hx hb dX10_compileValue_17 (by decide) ?_
    refine lv_ldcw (own := RX10) (v := 99999) hx hb hown (htg _ tw2055) dX10_compileValue_18 ?_
    obtain ⟨⟨r21, m_beginsAt_21, m_error_21, m_errorAt_21, m_next_21, m_token_21⟩, h9, hf⟩ := ob_s hf
    have hf := uc6_e hf
    refine gcV (index := 441) S hE (c_X10_readNumber ad a_m_fam m_undoCount m_thrown m_hasSnapshot m_rows m_lineLength m_formattedLength m_bufferLength m_limit m_next m_beginsAt m_token m_error m_errorAt m_errorPosition m_nested m_codeCount m_buffer (0 : Int32) (99999 : Int32) r21 m_beginsAt_21 m_error_21 m_errorAt_21 m_next_21 m_token_21 h9) mX10_readNumber tw1989 ⟨Nat.le_of_ble_eq_true rfl, Nat.le_of_ble_eq_true rfl⟩ hP hD hS hA ⟨Nat.zero_le _, Nat.zero_le _⟩ 0 10 rfl rfl rfl (wr := [((ad 35), .inl (cI, 200, .inl m_codes))]) [0, 1] [2] rfl rfl rfl rfl (by decide) (As := [.int (0 : Int32), .int (99999 : Int32)]) (rest := [.ref (ad 0)]) rfl hl.1 rfl (Nat.le_of_ble_eq_true rfl) dX10_compileValue_21 (fun H locs hP hD hS => ?_)
    refine W.eq (g2 := F0 m 24 ls [.int r21, .ref (ad 0)]) rfl ?_
    have hP : va_P (dC, dI) vwCl [((ad 35), .inl (cI, 200, .inl m_codes)), (ad 0, .inr (10, oM ad m_undoCount m_thrown m_hasSnapshot a_m_fam m_rows m_lineLength m_formattedLength m_bufferLength m_limit m_next_21 m_beginsAt_21 m_token_21 m_error_21 m_errorAt_21 m_errorPosition m_nested m_codeCount)), ((ad 24), .inl (cI, 800, .inl m_buffer))] H := hP
    have hD : va_D A [((ad 35), .inl (cI, 200, .inl m_codes)), (ad 0, .inr (10, oM ad m_undoCount m_thrown m_hasSnapshot a_m_fam m_rows m_lineLength m_formattedLength m_bufferLength m_limit m_next_21 m_beginsAt_21 m_token_21 m_error_21 m_errorAt_21 m_errorPosition m_nested m_codeCount)), ((ad 24), .inl (cI, 800, .inl m_buffer))] := hD
    obtain ⟨⟨m_codeCount_24, m_codes_24⟩, h9, hf⟩ := ob_s hf
    have hf := uc2_e hf
    refine gcV (index := 474) S hE (c_X10_emit ad a_m_fam m_undoCount m_thrown m_hasSnapshot m_rows m_lineLength m_formattedLength m_bufferLength m_limit m_next_21 m_beginsAt_21 m_token_21 m_error_21 m_errorAt_21 m_errorPosition m_nested m_codeCount m_codes r21 m_codeCount_24 m_codes_24 h9) mX10_emit tw2047 ⟨Nat.le_of_ble_eq_true rfl, Nat.le_of_ble_eq_true rfl⟩ hP hD hS hA ⟨Nat.zero_le _, Nat.zero_le _⟩ 1 10 rfl rfl rfl (wr := [((ad 24), .inl (cI, 800, .inl m_buffer))]) [1, 0] [2] rfl rfl rfl rfl (by decide) (As := [.int r21]) (rest := []) rfl hl.1 rfl (Nat.le_of_ble_eq_true rfl) dX10_compileValue_24 (fun H locs hP hD hS => ?_)
    refine W.eq (g2 := F0 m 27 ls []) rfl ?_
    have hP : va_P (dC, dI) vwCl [((ad 24), .inl (cI, 800, .inl m_buffer)), (ad 0, .inr (10, oM ad m_undoCount m_thrown m_hasSnapshot a_m_fam m_rows m_lineLength m_formattedLength m_bufferLength m_limit m_next_21 m_beginsAt_21 m_token_21 m_error_21 m_errorAt_21 m_errorPosition m_nested m_codeCount_24)), ((ad 35), .inl (cI, 200, .inl m_codes_24))] H := hP
    have hD : va_D A [((ad 24), .inl (cI, 800, .inl m_buffer)), (ad 0, .inr (10, oM ad m_undoCount m_thrown m_hasSnapshot a_m_fam m_rows m_lineLength m_formattedLength m_bufferLength m_limit m_next_21 m_beginsAt_21 m_token_21 m_error_21 m_errorAt_21 m_errorPosition m_nested m_codeCount_24)), ((ad 35), .inl (cI, 200, .inl m_codes_24))] := hD
    cases hf
    exact g_vret S hr hlocks (hP.sub [1, 0, 2] rfl) (hD.sub [1, 0, 2] (by decide) rfl) hS dX10_compileValue_27
  refine lv_aload_n hx hb dX10_compileValue_0 rfl (lv_at hl 0 rfl) ?_
  refine va_get (D := (dC, dI)) (ci := 10) (v := .int m_error) (C := RX10) (T := TX10) (N := 37) hx hb htg inX10 hown hE.1 hP 0 rfl rfl 29 (by decide) (htg _ tw1411) (fun _ h9 => h9) rfl dX10_compileValue_1 ?_
  refine lv_if_ne (tgt := 15) hx hb dX10_compileValue_4 (by decide) (fun h9 => ?_) (fun h9 => ?_)
  · have hf := itf h9 hf
    exact J15 H locs ls hf hP hD hS (lv_sub hl [0] rfl)
  · have hf := itt h9 hf
    refine lv_aload_n hx hb dX10_compileValue_7 rfl (lv_at hl 0 rfl) ?_
    refine va_get (D := (dC, dI)) (ci := 10) (v := .int m_token) (C := RX10) (T := TX10) (N := 37) hx hb htg inX10 hown hE.1 hP 0 rfl rfl 28 (by decide) (htg _ tw1410) (fun _ h9 => h9) rfl dX10_compileValue_8 ?_
    refine lv_iconst (v := 2) hx hb dX10_compileValue_11 (by decide) ?_
    refine lv_icmp_ne (tgt := 28) hx hb dX10_compileValue_12 (by decide) (fun h9 => ?_) (fun h9 => ?_)
    · have hf := itf h9 hf
      refine lv_iconst (v := 0) hx hb dX10_compileValue_28 (by decide) ?_
      refine lv_istore_n (lv' := [(1, .int (0 : Int32)), (0, .ref (ad 0))]) hx hb dX10_compileValue_29 rfl hl (by decide) rfl (fun ls hl => ?_)
      have K30 : ∀ (n30 : Nat) (v1_30 : Int32) (ex30 : Int32) (H : Heap) (locs : List Loc) (ls : Array Slot), p10_compileValue_L30 m_beginsAt m_buffer m_error m_next m_token n30 v1_30 = some ex30 → (fun v1_x30 => p10_compileValue_J58 m_beginsAt m_buffer m_codeCount m_codes m_error m_errorAt m_limit m_next m_token v1_x30) ex30 = some (m_beginsAt_9, m_codeCount_9, m_codes_9, m_error_9, m_errorAt_9, m_next_9, m_token_9) → va_P (dC, dI) vwCl [(ad 0, .inr (10, oM ad m_undoCount m_thrown m_hasSnapshot a_m_fam m_rows m_lineLength m_formattedLength m_bufferLength m_limit m_next m_beginsAt m_token m_error m_errorAt m_errorPosition m_nested m_codeCount)), ((ad 24), .inl (cI, 800, .inl m_buffer)), ((ad 35), .inl (cI, 200, .inl m_codes))] H → va_D A [(ad 0, .inr (10, oM ad m_undoCount m_thrown m_hasSnapshot a_m_fam m_rows m_lineLength m_formattedLength m_bufferLength m_limit m_next m_beginsAt m_token m_error m_errorAt m_errorPosition m_nested m_codeCount)), ((ad 24), .inl (cI, 800, .inl m_buffer)), ((ad 35), .inl (cI, 200, .inl m_codes))] → va_S A s.heap H locs → lv_has ls 2 [(0, .ref (ad 0)), (1, .int v1_30)] → W p l e ({ frames := 5, cells := 0, slots := 0, locals := 108 }) s m ([.ref (ad 0)] : List Value).toArray below meth c H locs 0 0 (MQ below (gQ dC dI none A [(ad 0, .inr (10, oM ad m_undoCount m_thrown m_hasSnapshot a_m_fam m_rows m_lineLength m_formattedLength m_bufferLength m_limit m_next_9 m_beginsAt_9 m_token_9 m_error_9 m_errorAt_9 m_errorPosition m_nested m_codeCount_9)), ((ad 24), .inl (cI, 800, .inl m_buffer)), ((ad 35), .inl (cI, 200, .inl m_codes_9))]) ([.ref (ad 0)] : List Value).toArray s 0 0 A) (F0 m 30 ls []) := by
        intro n30
        induction n30 with
        | zero => intro v1_30 ex30 H locs ls hf; rw [p10_compileValue_L30] at hf; cases hf
        | succ n30 ih30 =>
          intro v1_30 ex30 H locs ls hf hk30 hP hD hS hl
          rw [p10_compileValue_L30, p10_compileValue_L30_B] at hf
          refine lv_iload_n hx hb dX10_compileValue_30 rfl (lv_at hl 1 rfl) ?_
          refine lv_aload_n hx hb dX10_compileValue_31 rfl (lv_at hl 0 rfl) ?_
          refine va_get (D := (dC, dI)) (ci := 10) (v := .ref (ad 34)) (C := RX10) (T := TX10) (N := 37) hx hb htg inX10 hown hE.1 hP 0 rfl rfl 33 (by decide) (htg _ tw1415) (fun _ h9 => h9) rfl dX10_compileValue_32 ?_
          refine va_tlen (v := (7 : Int32)) hx hb hTN hS rfl dX10_compileValue_35 ?_
          refine lv_icmp_ge (tgt := 58) hx hb dX10_compileValue_36 (by decide) (fun h9 => ?_) (fun h9 => ?_)
          · have hf := itt h9 hf
            cases hf
            have hf := hk30
            exact J58 v1_30 H locs ls hf hP hD hS (lv_sub hl [0, 1] rfl)
          · have hf := itf h9 hf
            refine lv_aload_n hx hb dX10_compileValue_39 rfl (lv_at hl 0 rfl) ?_
            refine lv_aload_n hx hb dX10_compileValue_40 rfl (lv_at hl 0 rfl) ?_
            refine va_get (D := (dC, dI)) (ci := 10) (v := .ref (ad 34)) (C := RX10) (T := TX10) (N := 37) hx hb htg inX10 hown hE.1 hP 0 rfl rfl 33 (by decide) (htg _ tw1415) (fun _ h9 => h9) rfl dX10_compileValue_41 ?_
            refine lv_iload_n hx hb dX10_compileValue_44 rfl (lv_at hl 1 rfl) ?_
            obtain ⟨h9, hf⟩ := gd_s hf
            refine vb_tq (v := .ref (adK (nmW v1_30.toNatClampNeg))) hx hb hTN hS h9 rfl dX10_compileValue_45 ?_
            obtain ⟨r46, h9, hf⟩ := ob_s hf
            refine gcVH (index := 411) S hE hG (c_X10_isWord ad a_m_fam m_undoCount m_thrown m_hasSnapshot m_rows m_lineLength m_formattedLength m_bufferLength m_limit m_next m_beginsAt m_token m_error m_errorAt m_errorPosition m_nested m_codeCount m_buffer (nmW v1_30.toNatClampNeg) (nmW_lt _) r46 h9) mX10_isWord tw1958 ⟨Nat.le_of_ble_eq_true rfl, Nat.le_of_ble_eq_true rfl⟩ hP hD hS hA ⟨Nat.zero_le _, Nat.zero_le _⟩ 0 10 rfl rfl rfl (wr := [((ad 35), .inl (cI, 200, .inl m_codes))]) [0, 1] [2] rfl rfl rfl rfl (by decide) (As := [.ref (adK (nmW v1_30.toNatClampNeg))]) (rest := []) rfl hl.1 rfl (Nat.le_of_ble_eq_true rfl) dX10_compileValue_46 (fun H locs hP hD hS => ?_)
            refine W.eq (g2 := F0 m 49 ls [.int (bI r46)]) rfl ?_
            have hP : va_P (dC, dI) vwCl [((ad 35), .inl (cI, 200, .inl m_codes)), (ad 0, .inr (10, oM ad m_undoCount m_thrown m_hasSnapshot a_m_fam m_rows m_lineLength m_formattedLength m_bufferLength m_limit m_next m_beginsAt m_token m_error m_errorAt m_errorPosition m_nested m_codeCount)), ((ad 24), .inl (cI, 800, .inl m_buffer))] H := hP
            have hD : va_D A [((ad 35), .inl (cI, 200, .inl m_codes)), (ad 0, .inr (10, oM ad m_undoCount m_thrown m_hasSnapshot a_m_fam m_rows m_lineLength m_formattedLength m_bufferLength m_limit m_next m_beginsAt m_token m_error m_errorAt m_errorPosition m_nested m_codeCount)), ((ad 24), .inl (cI, 800, .inl m_buffer))] := hD
            refine lv_if_ne (tgt := 58) hx hb dX10_compileValue_49 (by decide) (fun h9 => ?_) (fun h9 => ?_)
            · have hf := ctt (bI_1 h9) hf
              cases hf
              have hf := hk30
              exact J58 v1_30 H locs ls hf (hP.sub [1, 2, 0] rfl) (hD.sub [1, 2, 0] (by decide) rfl) hS (lv_sub hl [0, 1] rfl)
            · have hf := ctf (bI_0 h9) hf
              obtain ⟨t52, h9⟩ : ∃ z : Int32, z = (v1_30 + (1 : Int32)) := ⟨_, rfl⟩
              have hf := lb_e h9 hf
              refine lv_iinc (v := t52) (lv' := [(1, .int t52), (0, .ref (ad 0))]) hx hb dX10_compileValue_52 hl (k := 1) rfl (by rw [h9]; rfl) (by decide) rfl (fun ls hl => ?_)
              refine lv_goto (tgt := 30) hx hb dX10_compileValue_55 (by decide) ?_
              exact ih30 t52 ex30 H locs ls hf hk30 (hP.sub [1, 2, 0] rfl) (hD.sub [1, 2, 0] (by decide) rfl) hS (lv_sub hl [1, 0] rfl)
      obtain ⟨ex, h9, hf⟩ := ob_s hf
      exact K30 FU (0 : Int32) ex H locs ls h9 hf hP hD hS (lv_sub hl [1, 0] rfl)
    · have hf := itt h9 hf
      exact J15 H locs ls hf hP hD hS (lv_sub hl [0] rfl)
def p10_operate (v0 : Int32) (v1 : Int64) (v3 : Int64) : Int64 := (if v0 = (-24 : Int32) then (v1 &&& v3) else (if v0 = (-23 : Int32) then (v1 ||| v3) else (if v0 = (-22 : Int32) then (if v1 ≤ v3 then (0 : Int64) else (1 : Int64)) else (if v0 = (-21 : Int32) then (if v1 = v3 then (1 : Int64) else (0 : Int64)) else (if v0 = (-20 : Int32) then (if v3 ≤ v1 then (0 : Int64) else (1 : Int64)) else (v1 ||| v3))))))
set_option maxHeartbeats 4000000 in
set_option maxRecDepth 100000 in
theorem c_X10_operate (v0 : Int32) (v1 : Int64) (v3 : Int64) (r9 : Int64) (hf : p10_operate v0 v1 v3 = r9) : gM l dC dI cI cJ cZ yX10_operate cX10_operate 5 (some .long) (0) (0) [.int v0, .long v1, .long v3] [] [] (some (.long r9)) := by
  refine g_start (own := RX10) (by decide +kernel) rfl (Nat.le_of_ble_eq_true rfl) ?_
  intro p e s m below meth c A ls S hr hlocks hE hP hD hS hA hl hin
  have hx := S.1
  have hb := S.2.1
  have hml := S.2.2.1
  have hown := S.2.2.2.1
  have htg : ∀ z ∈ gw, z.before ([.int v0, .long v1, .long v3] : List Value).toArray s = true := fun w h => S.2.2.2.2 w (List.mem_cons_of_mem _ h)
  have hl : lv_has ls 5 [(0, .int v0), (1, .long v1), (3, .long v3)] := hl
  have hS0 := hS
  obtain ⟨H, hH⟩ : ∃ H, H = s.heap := ⟨_, rfl⟩
  obtain ⟨locs, hlc⟩ : ∃ locs : List Loc, locs = [] := ⟨_, rfl⟩
  have hS : va_S A s.heap H locs := by rw [hH, hlc]; exact hS0
  have hP : va_P (dC, dI) vwCl [] H := by rw [hH]; exact hP
  suffices hgo : W p l e ({ frames := 0, cells := 0, slots := 0, locals := 0 }) s m ([.int v0, .long v1, .long v3] : List Value).toArray below meth c H locs 0 0 (MQ below (gQ dC dI (some (.long r9)) A []) ([.int v0, .long v1, .long v3] : List Value).toArray s 0 0 A) (F0 m 0 ls []) by rw [hH, hlc] at hgo; exact hgo
  rw [p10_operate] at hf
  refine lv_iload_n hx hb dX10_operate_0 rfl (lv_at hl 0 rfl) ?_
  by_cases h9 : v0 = (-24 : Int32)
  · have hf := itt h9 hf
    have q9 : (v0).toInt = -24 := by rw [h9]; decide
    refine lv_tableIn (tgt := 72) hx hb dX10_operate_1 (by omega) (by omega) (by first | (rw [q9]; rfl) | rw [q9]) (by decide) ?_
    refine lv_lload_n hx hb dX10_operate_72 rfl (lv_at hl 1 rfl) ?_
    refine lv_lload_n hx hb dX10_operate_73 rfl (lv_at hl 2 rfl) ?_
    refine lv_land hx hb dX10_operate_74 ?_
    cases hf
    exact g_lret S hr hlocks hP hD hS dX10_operate_75
  · have hf := itf h9 hf
    have q76 : (v0).toInt ≠ -24 := fun q => h9 (Int32.toInt_inj.mp (by rw [q]; decide))
    by_cases h9 : v0 = (-23 : Int32)
    · have hf := itt h9 hf
      have q9 : (v0).toInt = -23 := by rw [h9]; decide
      refine lv_tableIn (tgt := 76) hx hb dX10_operate_1 (by omega) (by omega) (by first | (rw [q9]; rfl) | rw [q9]) (by decide) ?_
      refine lv_lload_n hx hb dX10_operate_76 rfl (lv_at hl 1 rfl) ?_
      refine lv_lload_n hx hb dX10_operate_77 rfl (lv_at hl 2 rfl) ?_
      refine lv_lor hx hb dX10_operate_78 ?_
      cases hf
      exact g_lret S hr hlocks hP hD hS dX10_operate_79
    · have hf := itf h9 hf
      have q77 : (v0).toInt ≠ -23 := fun q => h9 (Int32.toInt_inj.mp (by rw [q]; decide))
      by_cases h9 : v0 = (-22 : Int32)
      · have hf := itt h9 hf
        have q9 : (v0).toInt = -22 := by rw [h9]; decide
        refine lv_tableIn (tgt := 60) hx hb dX10_operate_1 (by omega) (by omega) (by first | (rw [q9]; rfl) | rw [q9]) (by decide) ?_
        refine lv_lload_n hx hb dX10_operate_60 rfl (lv_at hl 1 rfl) ?_
        refine lv_lload_n hx hb dX10_operate_61 rfl (lv_at hl 2 rfl) ?_
        refine W.lcmp hx hb dX10_operate_62 ?_
        refine lv_if_le (tgt := 70) hx hb dX10_operate_63 (by decide) (fun h9 => ?_) (fun h9 => ?_)
        · have h9 := (lg_cmp_le _ _).mp h9
          have hf := itt h9 hf
          refine lv_lconst (v := 0) hx hb dX10_operate_70 (by decide) ?_
          cases hf
          exact g_lret S hr hlocks hP hD hS dX10_operate_71
        · have h9 := fun q => h9 ((lg_cmp_le _ _).mpr q)
          have hf := itf h9 hf
          refine lv_lconst (v := 1) hx hb dX10_operate_66 (by decide) ?_
          refine lv_goto (tgt := 71) hx hb dX10_operate_67 (by decide) ?_
          cases hf
          exact g_lret S hr hlocks hP hD hS dX10_operate_71
      · have hf := itf h9 hf
        have q78 : (v0).toInt ≠ -22 := fun q => h9 (Int32.toInt_inj.mp (by rw [q]; decide))
        by_cases h9 : v0 = (-21 : Int32)
        · have hf := itt h9 hf
          have q9 : (v0).toInt = -21 := by rw [h9]; decide
          refine lv_tableIn (tgt := 48) hx hb dX10_operate_1 (by omega) (by omega) (by first | (rw [q9]; rfl) | rw [q9]) (by decide) ?_
          refine lv_lload_n hx hb dX10_operate_48 rfl (lv_at hl 1 rfl) ?_
          refine lv_lload_n hx hb dX10_operate_49 rfl (lv_at hl 2 rfl) ?_
          refine W.lcmp hx hb dX10_operate_50 ?_
          refine lv_if_ne (tgt := 58) hx hb dX10_operate_51 (by decide) (fun h9 => ?_) (fun h9 => ?_)
          · have h9 := fun q => h9 ((lg_cmp_eq _ _).mpr q)
            have hf := itf h9 hf
            refine lv_lconst (v := 0) hx hb dX10_operate_58 (by decide) ?_
            cases hf
            exact g_lret S hr hlocks hP hD hS dX10_operate_59
          · have h9 := (lg_cmp_eq _ _).mp h9
            have hf := itt h9 hf
            refine lv_lconst (v := 1) hx hb dX10_operate_54 (by decide) ?_
            refine lv_goto (tgt := 59) hx hb dX10_operate_55 (by decide) ?_
            cases hf
            exact g_lret S hr hlocks hP hD hS dX10_operate_59
        · have hf := itf h9 hf
          have q79 : (v0).toInt ≠ -21 := fun q => h9 (Int32.toInt_inj.mp (by rw [q]; decide))
          by_cases h9 : v0 = (-20 : Int32)
          · have hf := itt h9 hf
            have q9 : (v0).toInt = -20 := by rw [h9]; decide
            refine lv_tableIn (tgt := 36) hx hb dX10_operate_1 (by omega) (by omega) (by first | (rw [q9]; rfl) | rw [q9]) (by decide) ?_
            refine lv_lload_n hx hb dX10_operate_36 rfl (lv_at hl 1 rfl) ?_
            refine lv_lload_n hx hb dX10_operate_37 rfl (lv_at hl 2 rfl) ?_
            refine W.lcmp hx hb dX10_operate_38 ?_
            refine lv_if_ge (tgt := 46) hx hb dX10_operate_39 (by decide) (fun h9 => ?_) (fun h9 => ?_)
            · have h9 := (lg_cmp_ge _ _).mp h9
              have hf := itt h9 hf
              refine lv_lconst (v := 0) hx hb dX10_operate_46 (by decide) ?_
              cases hf
              exact g_lret S hr hlocks hP hD hS dX10_operate_47
            · have h9 := fun q => h9 ((lg_cmp_ge _ _).mpr q)
              have hf := itf h9 hf
              refine lv_lconst (v := 1) hx hb dX10_operate_42 (by decide) ?_
              refine lv_goto (tgt := 47) hx hb dX10_operate_43 (by decide) ?_
              cases hf
              exact g_lret S hr hlocks hP hD hS dX10_operate_47
          · have hf := itf h9 hf
            have q80 : (v0).toInt ≠ -20 := fun q => h9 (Int32.toInt_inj.mp (by rw [q]; decide))
            refine lv_tableOut (tgt := 76) hx hb dX10_operate_1 (by omega) (by decide) ?_
            refine lv_lload_n hx hb dX10_operate_76 rfl (lv_at hl 1 rfl) ?_
            refine lv_lload_n hx hb dX10_operate_77 rfl (lv_at hl 2 rfl) ?_
            refine lv_lor hx hb dX10_operate_78 ?_
            cases hf
            exact g_lret S hr hlocks hP hD hS dX10_operate_79
def p10_property (m_fam : Nat → Int64) (m_generation : Nat → Int32) (v1 : Int32) (v2 : Int32) : Option (Int64) := (if v2 = (0 : Int32) then some v1.toInt64 else (if v2 = (1 : Int32) then ob (p10_ofPerson m_fam v1 (0 : Int32)) (fun r46 => some r46) else (if v2 = (2 : Int32) then gd v1 16 (some ((m_generation v1.toNatClampNeg).toInt64)) else (if v2 = (3 : Int32) then ob (p10_unionsOf m_fam v1) (fun r60 => some r60.toInt64) else (if v2 = (4 : Int32) then ob (p10_childrenOf m_fam v1) (fun r67 => ob (p10_members r67) (fun r70 => some r70.toInt64)) else (if v2 = (5 : Int32) then ob (p10_ancestorMask m_fam v1) (fun r77 => ob (p10_members r77) (fun r80 => some r80.toInt64)) else ob (p10_descendantMask m_fam v1) (fun r87 => ob (p10_members r87) (fun r90 => some r90.toInt64))))))))
set_option maxHeartbeats 4000000 in
set_option maxRecDepth 100000 in
theorem c_X10_property (ad : Nat → Nat) (a_m_fam : Nat) (m_undoCount : Int32) (m_thrown : Int32) (m_hasSnapshot : Bool) (m_rows : Int32) (m_lineLength : Int32) (m_formattedLength : Int32) (m_bufferLength : Int32) (m_limit : Int32) (m_next : Int32) (m_beginsAt : Int32) (m_token : Int32) (m_error : Int32) (m_errorAt : Int32) (m_errorPosition : Int32) (m_nested : Int32) (m_codeCount : Int32) (m_fam : Nat → Int64) (m_generation : Nat → Int32) (v1 : Int32) (v2 : Int32) (r9 : Int64) (hf : p10_property m_fam m_generation v1 v2 = some r9) : gM l dC dI cI cJ cZ yX10_property cX10_property 3 (some .long) (4) (93) [.ref (ad 0), .int v1, .int v2] [(ad 0, .inr (10, oM ad m_undoCount m_thrown m_hasSnapshot a_m_fam m_rows m_lineLength m_formattedLength m_bufferLength m_limit m_next m_beginsAt m_token m_error m_errorAt m_errorPosition m_nested m_codeCount)), (a_m_fam, .inl (cJ, 130, .inr (.inl m_fam))), ((ad 9), .inl (cI, 16, .inl m_generation))] [(ad 0, .inr (10, oM ad m_undoCount m_thrown m_hasSnapshot a_m_fam m_rows m_lineLength m_formattedLength m_bufferLength m_limit m_next m_beginsAt m_token m_error m_errorAt m_errorPosition m_nested m_codeCount)), (a_m_fam, .inl (cJ, 130, .inr (.inl m_fam))), ((ad 9), .inl (cI, 16, .inl m_generation))] (some (.long r9)) := by
  refine g_start (own := RX10) (by decide +kernel) rfl (Nat.le_of_ble_eq_true rfl) ?_
  intro p e s m below meth c A ls S hr hlocks hE hP hD hS hA hl hin
  have hx := S.1
  have hb := S.2.1
  have hml := S.2.2.1
  have hown := S.2.2.2.1
  have htg : ∀ z ∈ gw, z.before ([.ref (ad 0), .int v1, .int v2] : List Value).toArray s = true := fun w h => S.2.2.2.2 w (List.mem_cons_of_mem _ h)
  have hl : lv_has ls 3 [(0, .ref (ad 0)), (1, .int v1), (2, .int v2)] := hl
  have hS0 := hS
  obtain ⟨H, hH⟩ : ∃ H, H = s.heap := ⟨_, rfl⟩
  obtain ⟨locs, hlc⟩ : ∃ locs : List Loc, locs = [] := ⟨_, rfl⟩
  have hS : va_S A s.heap H locs := by rw [hH, hlc]; exact hS0
  have hP : va_P (dC, dI) vwCl [(ad 0, .inr (10, oM ad m_undoCount m_thrown m_hasSnapshot a_m_fam m_rows m_lineLength m_formattedLength m_bufferLength m_limit m_next m_beginsAt m_token m_error m_errorAt m_errorPosition m_nested m_codeCount)), (a_m_fam, .inl (cJ, 130, .inr (.inl m_fam))), ((ad 9), .inl (cI, 16, .inl m_generation))] H := by rw [hH]; exact hP
  suffices hgo : W p l e ({ frames := 4, cells := 0, slots := 0, locals := 93 }) s m ([.ref (ad 0), .int v1, .int v2] : List Value).toArray below meth c H locs 0 0 (MQ below (gQ dC dI (some (.long r9)) A [(ad 0, .inr (10, oM ad m_undoCount m_thrown m_hasSnapshot a_m_fam m_rows m_lineLength m_formattedLength m_bufferLength m_limit m_next m_beginsAt m_token m_error m_errorAt m_errorPosition m_nested m_codeCount)), (a_m_fam, .inl (cJ, 130, .inr (.inl m_fam))), ((ad 9), .inl (cI, 16, .inl m_generation))]) ([.ref (ad 0), .int v1, .int v2] : List Value).toArray s 0 0 A) (F0 m 0 ls []) by rw [hH, hlc] at hgo; exact hgo
  rw [p10_property] at hf
  refine lv_iload_n hx hb dX10_property_0 rfl (lv_at hl 2 rfl) ?_
  by_cases h9 : v2 = (0 : Int32)
  · have hf := itt h9 hf
    have q9 : (v2).toInt = 0 := by rw [h9]; decide
    refine lv_tableIn (tgt := 40) hx hb dX10_property_1 (by omega) (by omega) (by first | (rw [q9]; rfl) | rw [q9]) (by decide) ?_
    refine lv_iload_n hx hb dX10_property_40 rfl (lv_at hl 1 rfl) ?_
    refine lv_i2l hx hb dX10_property_41 rfl ?_
    cases hf
    exact g_lret S hr hlocks hP hD hS dX10_property_42
  · have hf := itf h9 hf
    have q100 : (v2).toInt ≠ 0 := fun q => h9 (Int32.toInt_inj.mp (by rw [q]; decide))
    by_cases h9 : v2 = (1 : Int32)
    · have hf := itt h9 hf
      have q9 : (v2).toInt = 1 := by rw [h9]; decide
      refine lv_tableIn (tgt := 43) hx hb dX10_property_1 (by omega) (by omega) (by first | (rw [q9]; rfl) | rw [q9]) (by decide) ?_
      refine lv_aload_n hx hb dX10_property_43 rfl (lv_at hl 0 rfl) ?_
      refine lv_iload_n hx hb dX10_property_44 rfl (lv_at hl 1 rfl) ?_
      refine lv_iconst (v := 0) hx hb dX10_property_45 (by decide) ?_
      obtain ⟨r46, h9, hf⟩ := ob_s hf
      refine gcV (index := 98) S hE (c_X10_ofPerson ad a_m_fam m_undoCount m_thrown m_hasSnapshot m_rows m_lineLength m_formattedLength m_bufferLength m_limit m_next m_beginsAt m_token m_error m_errorAt m_errorPosition m_nested m_codeCount m_fam v1 (0 : Int32) r46 h9) mX10_ofPerson tw1519 ⟨Nat.le_of_ble_eq_true rfl, Nat.le_of_ble_eq_true rfl⟩ hP hD hS hA ⟨Nat.zero_le _, Nat.zero_le _⟩ 0 10 rfl rfl rfl (wr := [((ad 9), .inl (cI, 16, .inl m_generation))]) [0, 1] [2] rfl rfl rfl rfl (by decide) (As := [.int v1, .int (0 : Int32)]) (rest := []) rfl hl.1 rfl (Nat.le_of_ble_eq_true rfl) dX10_property_46 (fun H locs hP hD hS => ?_)
      refine W.eq (g2 := F0 m 49 ls [.long r46]) rfl ?_
      have hP : va_P (dC, dI) vwCl [((ad 9), .inl (cI, 16, .inl m_generation)), (ad 0, .inr (10, oM ad m_undoCount m_thrown m_hasSnapshot a_m_fam m_rows m_lineLength m_formattedLength m_bufferLength m_limit m_next m_beginsAt m_token m_error m_errorAt m_errorPosition m_nested m_codeCount)), (a_m_fam, .inl (cJ, 130, .inr (.inl m_fam)))] H := hP
      have hD : va_D A [((ad 9), .inl (cI, 16, .inl m_generation)), (ad 0, .inr (10, oM ad m_undoCount m_thrown m_hasSnapshot a_m_fam m_rows m_lineLength m_formattedLength m_bufferLength m_limit m_next m_beginsAt m_token m_error m_errorAt m_errorPosition m_nested m_codeCount)), (a_m_fam, .inl (cJ, 130, .inr (.inl m_fam)))] := hD
      cases hf
      exact g_lret S hr hlocks (hP.sub [1, 2, 0] rfl) (hD.sub [1, 2, 0] (by decide) rfl) hS dX10_property_49
    · have hf := itf h9 hf
      have q101 : (v2).toInt ≠ 1 := fun q => h9 (Int32.toInt_inj.mp (by rw [q]; decide))
      by_cases h9 : v2 = (2 : Int32)
      · have hf := itt h9 hf
        have q9 : (v2).toInt = 2 := by rw [h9]; decide
        refine lv_tableIn (tgt := 50) hx hb dX10_property_1 (by omega) (by omega) (by first | (rw [q9]; rfl) | rw [q9]) (by decide) ?_
        refine lv_aload_n hx hb dX10_property_50 rfl (lv_at hl 0 rfl) ?_
        refine va_get (D := (dC, dI)) (ci := 10) (v := .ref (ad 9)) (C := RX10) (T := TX10) (N := 37) hx hb htg inX10 hown hE.1 hP 0 rfl rfl 8 (by decide) (htg _ tw1390) (fun _ h9 => h9) rfl dX10_property_51 ?_
        refine lv_iload_n hx hb dX10_property_54 rfl (lv_at hl 1 rfl) ?_
        obtain ⟨h9, hf⟩ := gd_s hf
        refine va_iald hx hb hE.1 hP 2 0 rfl rfl h9 dX10_property_55 ?_
        refine lv_i2l hx hb dX10_property_56 rfl ?_
        cases hf
        exact g_lret S hr hlocks hP hD hS dX10_property_57
      · have hf := itf h9 hf
        have q102 : (v2).toInt ≠ 2 := fun q => h9 (Int32.toInt_inj.mp (by rw [q]; decide))
        by_cases h9 : v2 = (3 : Int32)
        · have hf := itt h9 hf
          have q9 : (v2).toInt = 3 := by rw [h9]; decide
          refine lv_tableIn (tgt := 58) hx hb dX10_property_1 (by omega) (by omega) (by first | (rw [q9]; rfl) | rw [q9]) (by decide) ?_
          refine lv_aload_n hx hb dX10_property_58 rfl (lv_at hl 0 rfl) ?_
          refine lv_iload_n hx hb dX10_property_59 rfl (lv_at hl 1 rfl) ?_
          obtain ⟨r60, h9, hf⟩ := ob_s hf
          refine gcV (index := 243) S hE (c_X10_unionsOf ad a_m_fam m_undoCount m_thrown m_hasSnapshot m_rows m_lineLength m_formattedLength m_bufferLength m_limit m_next m_beginsAt m_token m_error m_errorAt m_errorPosition m_nested m_codeCount m_fam v1 r60 h9) mX10_unionsOf tw1588 ⟨Nat.le_of_ble_eq_true rfl, Nat.le_of_ble_eq_true rfl⟩ hP hD hS hA ⟨Nat.zero_le _, Nat.zero_le _⟩ 0 10 rfl rfl rfl (wr := [((ad 9), .inl (cI, 16, .inl m_generation))]) [0, 1] [2] rfl rfl rfl rfl (by decide) (As := [.int v1]) (rest := []) rfl hl.1 rfl (Nat.le_of_ble_eq_true rfl) dX10_property_60 (fun H locs hP hD hS => ?_)
          refine W.eq (g2 := F0 m 63 ls [.int r60]) rfl ?_
          have hP : va_P (dC, dI) vwCl [((ad 9), .inl (cI, 16, .inl m_generation)), (ad 0, .inr (10, oM ad m_undoCount m_thrown m_hasSnapshot a_m_fam m_rows m_lineLength m_formattedLength m_bufferLength m_limit m_next m_beginsAt m_token m_error m_errorAt m_errorPosition m_nested m_codeCount)), (a_m_fam, .inl (cJ, 130, .inr (.inl m_fam)))] H := hP
          have hD : va_D A [((ad 9), .inl (cI, 16, .inl m_generation)), (ad 0, .inr (10, oM ad m_undoCount m_thrown m_hasSnapshot a_m_fam m_rows m_lineLength m_formattedLength m_bufferLength m_limit m_next m_beginsAt m_token m_error m_errorAt m_errorPosition m_nested m_codeCount)), (a_m_fam, .inl (cJ, 130, .inr (.inl m_fam)))] := hD
          refine lv_i2l hx hb dX10_property_63 rfl ?_
          cases hf
          exact g_lret S hr hlocks (hP.sub [1, 2, 0] rfl) (hD.sub [1, 2, 0] (by decide) rfl) hS dX10_property_64
        · have hf := itf h9 hf
          have q103 : (v2).toInt ≠ 3 := fun q => h9 (Int32.toInt_inj.mp (by rw [q]; decide))
          by_cases h9 : v2 = (4 : Int32)
          · have hf := itt h9 hf
            have q9 : (v2).toInt = 4 := by rw [h9]; decide
            refine lv_tableIn (tgt := 65) hx hb dX10_property_1 (by omega) (by omega) (by first | (rw [q9]; rfl) | rw [q9]) (by decide) ?_
            refine lv_aload_n hx hb dX10_property_65 rfl (lv_at hl 0 rfl) ?_
            refine lv_iload_n hx hb dX10_property_66 rfl (lv_at hl 1 rfl) ?_
            obtain ⟨r67, h9, hf⟩ := ob_s hf
            refine gcV (index := 224) S hE (c_X10_childrenOf ad a_m_fam m_undoCount m_thrown m_hasSnapshot m_rows m_lineLength m_formattedLength m_bufferLength m_limit m_next m_beginsAt m_token m_error m_errorAt m_errorPosition m_nested m_codeCount m_fam v1 r67 h9) mX10_childrenOf tw1560 ⟨Nat.le_of_ble_eq_true rfl, Nat.le_of_ble_eq_true rfl⟩ hP hD hS hA ⟨Nat.zero_le _, Nat.zero_le _⟩ 0 10 rfl rfl rfl (wr := [((ad 9), .inl (cI, 16, .inl m_generation))]) [0, 1] [2] rfl rfl rfl rfl (by decide) (As := [.int v1]) (rest := []) rfl hl.1 rfl (Nat.le_of_ble_eq_true rfl) dX10_property_67 (fun H locs hP hD hS => ?_)
            refine W.eq (g2 := F0 m 70 ls [.int r67]) rfl ?_
            have hP : va_P (dC, dI) vwCl [((ad 9), .inl (cI, 16, .inl m_generation)), (ad 0, .inr (10, oM ad m_undoCount m_thrown m_hasSnapshot a_m_fam m_rows m_lineLength m_formattedLength m_bufferLength m_limit m_next m_beginsAt m_token m_error m_errorAt m_errorPosition m_nested m_codeCount)), (a_m_fam, .inl (cJ, 130, .inr (.inl m_fam)))] H := hP
            have hD : va_D A [((ad 9), .inl (cI, 16, .inl m_generation)), (ad 0, .inr (10, oM ad m_undoCount m_thrown m_hasSnapshot a_m_fam m_rows m_lineLength m_formattedLength m_bufferLength m_limit m_next m_beginsAt m_token m_error m_errorAt m_errorPosition m_nested m_codeCount)), (a_m_fam, .inl (cJ, 130, .inr (.inl m_fam)))] := hD
            obtain ⟨r70, h9, hf⟩ := ob_s hf
            refine gcS (index := 251) S hE (c_X10_members r67 r70 h9) mX10_members tw1633 ⟨Nat.le_of_ble_eq_true rfl, Nat.le_of_ble_eq_true rfl⟩ hP hD hS hA ⟨Nat.zero_le _, Nat.zero_le _⟩ (wr := [((ad 9), .inl (cI, 16, .inl m_generation)), (ad 0, .inr (10, oM ad m_undoCount m_thrown m_hasSnapshot a_m_fam m_rows m_lineLength m_formattedLength m_bufferLength m_limit m_next m_beginsAt m_token m_error m_errorAt m_errorPosition m_nested m_codeCount)), (a_m_fam, .inl (cJ, 130, .inr (.inl m_fam)))]) [] [0, 1, 2] rfl rfl rfl rfl (by decide) (As := [.int r67]) (rest := []) rfl hl.1 rfl (Nat.le_of_ble_eq_true rfl) dX10_property_70 (fun H locs hP hD hS => ?_)
            refine W.eq (g2 := F0 m 73 ls [.int r70]) rfl ?_
            have hP : va_P (dC, dI) vwCl [((ad 9), .inl (cI, 16, .inl m_generation)), (ad 0, .inr (10, oM ad m_undoCount m_thrown m_hasSnapshot a_m_fam m_rows m_lineLength m_formattedLength m_bufferLength m_limit m_next m_beginsAt m_token m_error m_errorAt m_errorPosition m_nested m_codeCount)), (a_m_fam, .inl (cJ, 130, .inr (.inl m_fam)))] H := hP
            have hD : va_D A [((ad 9), .inl (cI, 16, .inl m_generation)), (ad 0, .inr (10, oM ad m_undoCount m_thrown m_hasSnapshot a_m_fam m_rows m_lineLength m_formattedLength m_bufferLength m_limit m_next m_beginsAt m_token m_error m_errorAt m_errorPosition m_nested m_codeCount)), (a_m_fam, .inl (cJ, 130, .inr (.inl m_fam)))] := hD
            refine lv_i2l hx hb dX10_property_73 rfl ?_
            cases hf
            exact g_lret S hr hlocks (hP.sub [1, 2, 0] rfl) (hD.sub [1, 2, 0] (by decide) rfl) hS dX10_property_74
          · have hf := itf h9 hf
            have q104 : (v2).toInt ≠ 4 := fun q => h9 (Int32.toInt_inj.mp (by rw [q]; decide))
            by_cases h9 : v2 = (5 : Int32)
            · have hf := itt h9 hf
              have q9 : (v2).toInt = 5 := by rw [h9]; decide
              refine lv_tableIn (tgt := 75) hx hb dX10_property_1 (by omega) (by omega) (by first | (rw [q9]; rfl) | rw [q9]) (by decide) ?_
              refine lv_aload_n hx hb dX10_property_75 rfl (lv_at hl 0 rfl) ?_
              refine lv_iload_n hx hb dX10_property_76 rfl (lv_at hl 1 rfl) ?_
              obtain ⟨r77, h9, hf⟩ := ob_s hf
              refine gcV (index := 254) S hE (c_X10_ancestorMask ad a_m_fam m_undoCount m_thrown m_hasSnapshot m_rows m_lineLength m_formattedLength m_bufferLength m_limit m_next m_beginsAt m_token m_error m_errorAt m_errorPosition m_nested m_codeCount m_fam v1 r77 h9) mX10_ancestorMask tw1648 ⟨Nat.le_of_ble_eq_true rfl, Nat.le_of_ble_eq_true rfl⟩ hP hD hS hA ⟨Nat.zero_le _, Nat.zero_le _⟩ 0 10 rfl rfl rfl (wr := [((ad 9), .inl (cI, 16, .inl m_generation))]) [0, 1] [2] rfl rfl rfl rfl (by decide) (As := [.int v1]) (rest := []) rfl hl.1 rfl (Nat.le_of_ble_eq_true rfl) dX10_property_77 (fun H locs hP hD hS => ?_)
              refine W.eq (g2 := F0 m 80 ls [.int r77]) rfl ?_
              have hP : va_P (dC, dI) vwCl [((ad 9), .inl (cI, 16, .inl m_generation)), (ad 0, .inr (10, oM ad m_undoCount m_thrown m_hasSnapshot a_m_fam m_rows m_lineLength m_formattedLength m_bufferLength m_limit m_next m_beginsAt m_token m_error m_errorAt m_errorPosition m_nested m_codeCount)), (a_m_fam, .inl (cJ, 130, .inr (.inl m_fam)))] H := hP
              have hD : va_D A [((ad 9), .inl (cI, 16, .inl m_generation)), (ad 0, .inr (10, oM ad m_undoCount m_thrown m_hasSnapshot a_m_fam m_rows m_lineLength m_formattedLength m_bufferLength m_limit m_next m_beginsAt m_token m_error m_errorAt m_errorPosition m_nested m_codeCount)), (a_m_fam, .inl (cJ, 130, .inr (.inl m_fam)))] := hD
              obtain ⟨r80, h9, hf⟩ := ob_s hf
              refine gcS (index := 251) S hE (c_X10_members r77 r80 h9) mX10_members tw1633 ⟨Nat.le_of_ble_eq_true rfl, Nat.le_of_ble_eq_true rfl⟩ hP hD hS hA ⟨Nat.zero_le _, Nat.zero_le _⟩ (wr := [((ad 9), .inl (cI, 16, .inl m_generation)), (ad 0, .inr (10, oM ad m_undoCount m_thrown m_hasSnapshot a_m_fam m_rows m_lineLength m_formattedLength m_bufferLength m_limit m_next m_beginsAt m_token m_error m_errorAt m_errorPosition m_nested m_codeCount)), (a_m_fam, .inl (cJ, 130, .inr (.inl m_fam)))]) [] [0, 1, 2] rfl rfl rfl rfl (by decide) (As := [.int r77]) (rest := []) rfl hl.1 rfl (Nat.le_of_ble_eq_true rfl) dX10_property_80 (fun H locs hP hD hS => ?_)
              refine W.eq (g2 := F0 m 83 ls [.int r80]) rfl ?_
              have hP : va_P (dC, dI) vwCl [((ad 9), .inl (cI, 16, .inl m_generation)), (ad 0, .inr (10, oM ad m_undoCount m_thrown m_hasSnapshot a_m_fam m_rows m_lineLength m_formattedLength m_bufferLength m_limit m_next m_beginsAt m_token m_error m_errorAt m_errorPosition m_nested m_codeCount)), (a_m_fam, .inl (cJ, 130, .inr (.inl m_fam)))] H := hP
              have hD : va_D A [((ad 9), .inl (cI, 16, .inl m_generation)), (ad 0, .inr (10, oM ad m_undoCount m_thrown m_hasSnapshot a_m_fam m_rows m_lineLength m_formattedLength m_bufferLength m_limit m_next m_beginsAt m_token m_error m_errorAt m_errorPosition m_nested m_codeCount)), (a_m_fam, .inl (cJ, 130, .inr (.inl m_fam)))] := hD
              refine lv_i2l hx hb dX10_property_83 rfl ?_
              cases hf
              exact g_lret S hr hlocks (hP.sub [1, 2, 0] rfl) (hD.sub [1, 2, 0] (by decide) rfl) hS dX10_property_84
            · have hf := itf h9 hf
              have q105 : (v2).toInt ≠ 5 := fun q => h9 (Int32.toInt_inj.mp (by rw [q]; decide))
              refine lv_tableOut (tgt := 85) hx hb dX10_property_1 (by omega) (by decide) ?_
              refine lv_aload_n hx hb dX10_property_85 rfl (lv_at hl 0 rfl) ?_
              refine lv_iload_n hx hb dX10_property_86 rfl (lv_at hl 1 rfl) ?_
              obtain ⟨r87, h9, hf⟩ := ob_s hf
              refine gcV (index := 257) S hE (c_X10_descendantMask ad a_m_fam m_undoCount m_thrown m_hasSnapshot m_rows m_lineLength m_formattedLength m_bufferLength m_limit m_next m_beginsAt m_token m_error m_errorAt m_errorPosition m_nested m_codeCount m_fam v1 r87 h9) mX10_descendantMask tw1656 ⟨Nat.le_of_ble_eq_true rfl, Nat.le_of_ble_eq_true rfl⟩ hP hD hS hA ⟨Nat.zero_le _, Nat.zero_le _⟩ 0 10 rfl rfl rfl (wr := [((ad 9), .inl (cI, 16, .inl m_generation))]) [0, 1] [2] rfl rfl rfl rfl (by decide) (As := [.int v1]) (rest := []) rfl hl.1 rfl (Nat.le_of_ble_eq_true rfl) dX10_property_87 (fun H locs hP hD hS => ?_)
              refine W.eq (g2 := F0 m 90 ls [.int r87]) rfl ?_
              have hP : va_P (dC, dI) vwCl [((ad 9), .inl (cI, 16, .inl m_generation)), (ad 0, .inr (10, oM ad m_undoCount m_thrown m_hasSnapshot a_m_fam m_rows m_lineLength m_formattedLength m_bufferLength m_limit m_next m_beginsAt m_token m_error m_errorAt m_errorPosition m_nested m_codeCount)), (a_m_fam, .inl (cJ, 130, .inr (.inl m_fam)))] H := hP
              have hD : va_D A [((ad 9), .inl (cI, 16, .inl m_generation)), (ad 0, .inr (10, oM ad m_undoCount m_thrown m_hasSnapshot a_m_fam m_rows m_lineLength m_formattedLength m_bufferLength m_limit m_next m_beginsAt m_token m_error m_errorAt m_errorPosition m_nested m_codeCount)), (a_m_fam, .inl (cJ, 130, .inr (.inl m_fam)))] := hD
              obtain ⟨r90, h9, hf⟩ := ob_s hf
              refine gcS (index := 251) S hE (c_X10_members r87 r90 h9) mX10_members tw1633 ⟨Nat.le_of_ble_eq_true rfl, Nat.le_of_ble_eq_true rfl⟩ hP hD hS hA ⟨Nat.zero_le _, Nat.zero_le _⟩ (wr := [((ad 9), .inl (cI, 16, .inl m_generation)), (ad 0, .inr (10, oM ad m_undoCount m_thrown m_hasSnapshot a_m_fam m_rows m_lineLength m_formattedLength m_bufferLength m_limit m_next m_beginsAt m_token m_error m_errorAt m_errorPosition m_nested m_codeCount)), (a_m_fam, .inl (cJ, 130, .inr (.inl m_fam)))]) [] [0, 1, 2] rfl rfl rfl rfl (by decide) (As := [.int r87]) (rest := []) rfl hl.1 rfl (Nat.le_of_ble_eq_true rfl) dX10_property_90 (fun H locs hP hD hS => ?_)
              refine W.eq (g2 := F0 m 93 ls [.int r90]) rfl ?_
              have hP : va_P (dC, dI) vwCl [((ad 9), .inl (cI, 16, .inl m_generation)), (ad 0, .inr (10, oM ad m_undoCount m_thrown m_hasSnapshot a_m_fam m_rows m_lineLength m_formattedLength m_bufferLength m_limit m_next m_beginsAt m_token m_error m_errorAt m_errorPosition m_nested m_codeCount)), (a_m_fam, .inl (cJ, 130, .inr (.inl m_fam)))] H := hP
              have hD : va_D A [((ad 9), .inl (cI, 16, .inl m_generation)), (ad 0, .inr (10, oM ad m_undoCount m_thrown m_hasSnapshot a_m_fam m_rows m_lineLength m_formattedLength m_bufferLength m_limit m_next m_beginsAt m_token m_error m_errorAt m_errorPosition m_nested m_codeCount)), (a_m_fam, .inl (cJ, 130, .inr (.inl m_fam)))] := hD
              refine lv_i2l hx hb dX10_property_93 rfl ?_
              cases hf
              exact g_lret S hr hlocks (hP.sub [1, 2, 0] rfl) (hD.sub [1, 2, 0] (by decide) rfl) hS dX10_property_94
def p10_holdsFor_J123 (m_stack_123 : Nat → Int64) : Option (Bool × (Nat → Int64)) := gd (0 : Int32) 200 ((if (m_stack_123 (0 : Int32).toNatClampNeg) = (1 : Int64) then some (true, m_stack_123) else some (false, m_stack_123)))
def p10_holdsFor_L4_B (m_codeCount : Int32) (m_codes : Nat → Int32) (m_fam : Nat → Int64) (m_generation : Nat → Int32) (v1 : Int32) (k4 : Int32 → Int32 → (Nat → Int64) → Option ((Nat → Int64))) (v2_4 : Int32) (v3_4 : Int32) (m_stack_4 : Nat → Int64) : Option ((Nat → Int64)) := (if m_codeCount ≤ v3_4 then some m_stack_4 else gd v3_4 200 (lb (m_codes v3_4.toNatClampNeg) (fun t18 => (if t18 = (-23 : Int32) then gd (v2_4 - (1 : Int32)) 200 (gd (v2_4 - (1 : Int32)) 200 (lb (vp_updL m_stack_4 (v2_4 - (1 : Int32)).toNatClampNeg ((1 : Int64) - (m_stack_4 (v2_4 - (1 : Int32)).toNatClampNeg))) (fun g44 => lb (v3_4 + (1 : Int32)) (fun t117 => (k4 v2_4 t117 g44))))) else (if t18 ≤ (-20 : Int32) then lb (v2_4 + (-1 : Int32)) (fun t87 => gd (t87 - (1 : Int32)) 200 (gd t87 200 (gd (t87 - (1 : Int32)) 200 (lb (vp_updL m_stack_4 (t87 - (1 : Int32)).toNatClampNeg (p10_operate t18 (m_stack_4 (t87 - (1 : Int32)).toNatClampNeg) (m_stack_4 t87.toNatClampNeg))) (fun g116 => lb (v3_4 + (1 : Int32)) (fun t117 => (k4 t87 t117 g116))))))) else (if t18 < (0 : Int32) then ob (p10_property m_fam m_generation v1 ((-1 : Int32) - t18)) (fun r77 => gd v2_4 200 (lb (vp_updL m_stack_4 v2_4.toNatClampNeg r77) (fun g80 => lb (v2_4 + (1 : Int32)) (fun t81 => lb (v3_4 + (1 : Int32)) (fun t117 => (k4 t81 t117 g80)))))) else gd v2_4 200 (lb (vp_updL m_stack_4 v2_4.toNatClampNeg t18.toInt64) (fun g80 => lb (v2_4 + (1 : Int32)) (fun t81 => lb (v3_4 + (1 : Int32)) (fun t117 => (k4 t81 t117 g80)))))))))))
def p10_holdsFor_L4 (m_codeCount : Int32) (m_codes : Nat → Int32) (m_fam : Nat → Int64) (m_generation : Nat → Int32) (v1 : Int32) : Nat → Int32 → Int32 → (Nat → Int64) → Option ((Nat → Int64))
  | 0, _, _, _ => none
  | n+1, v2_4, v3_4, m_stack_4 => p10_holdsFor_L4_B m_codeCount m_codes m_fam m_generation v1 (p10_holdsFor_L4 m_codeCount m_codes m_fam m_generation v1 n) v2_4 v3_4 m_stack_4
def p10_holdsFor (m_codeCount : Int32) (m_codes : Nat → Int32) (m_fam : Nat → Int64) (m_generation : Nat → Int32) (m_stack : Nat → Int64) (v1 : Int32) : Option (Bool × (Nat → Int64)) := (ob (p10_holdsFor_L4 m_codeCount m_codes m_fam m_generation v1 FU (0 : Int32) (0 : Int32) m_stack) (fun m_stack_x4 => p10_holdsFor_J123 m_stack_x4))
set_option maxHeartbeats 4000000 in
set_option maxRecDepth 100000 in
theorem c_X10_holdsFor (ad : Nat → Nat) (a_m_fam : Nat) (m_undoCount : Int32) (m_thrown : Int32) (m_hasSnapshot : Bool) (m_rows : Int32) (m_lineLength : Int32) (m_formattedLength : Int32) (m_bufferLength : Int32) (m_limit : Int32) (m_next : Int32) (m_beginsAt : Int32) (m_token : Int32) (m_error : Int32) (m_errorAt : Int32) (m_errorPosition : Int32) (m_nested : Int32) (m_codeCount : Int32) (m_codes : Nat → Int32) (m_fam : Nat → Int64) (m_generation : Nat → Int32) (m_stack : Nat → Int64) (v1 : Int32) (r9 : Bool) (m_stack_9 : Nat → Int64) (hf : p10_holdsFor m_codeCount m_codes m_fam m_generation m_stack v1 = some (r9, m_stack_9)) : gM l dC dI cI cJ cZ yX10_holdsFor cX10_holdsFor 5 (some .boolean) (5) (115) [.ref (ad 0), .int v1] [(ad 0, .inr (10, oM ad m_undoCount m_thrown m_hasSnapshot a_m_fam m_rows m_lineLength m_formattedLength m_bufferLength m_limit m_next m_beginsAt m_token m_error m_errorAt m_errorPosition m_nested m_codeCount)), ((ad 35), .inl (cI, 200, .inl m_codes)), (a_m_fam, .inl (cJ, 130, .inr (.inl m_fam))), ((ad 9), .inl (cI, 16, .inl m_generation)), ((ad 36), .inl (cJ, 200, .inr (.inl m_stack)))] [(ad 0, .inr (10, oM ad m_undoCount m_thrown m_hasSnapshot a_m_fam m_rows m_lineLength m_formattedLength m_bufferLength m_limit m_next m_beginsAt m_token m_error m_errorAt m_errorPosition m_nested m_codeCount)), ((ad 35), .inl (cI, 200, .inl m_codes)), (a_m_fam, .inl (cJ, 130, .inr (.inl m_fam))), ((ad 9), .inl (cI, 16, .inl m_generation)), ((ad 36), .inl (cJ, 200, .inr (.inl m_stack_9)))] (some (.int (bI r9))) := by
  refine g_start (own := RX10) (by decide +kernel) rfl (Nat.le_of_ble_eq_true rfl) ?_
  intro p e s m below meth c A ls S hr hlocks hE hP hD hS hA hl hin
  have hx := S.1
  have hb := S.2.1
  have hml := S.2.2.1
  have hown := S.2.2.2.1
  have htg : ∀ z ∈ gw, z.before ([.ref (ad 0), .int v1] : List Value).toArray s = true := fun w h => S.2.2.2.2 w (List.mem_cons_of_mem _ h)
  have hl : lv_has ls 5 [(0, .ref (ad 0)), (1, .int v1)] := hl
  have hS0 := hS
  obtain ⟨H, hH⟩ : ∃ H, H = s.heap := ⟨_, rfl⟩
  obtain ⟨locs, hlc⟩ : ∃ locs : List Loc, locs = [] := ⟨_, rfl⟩
  have hS : va_S A s.heap H locs := by rw [hH, hlc]; exact hS0
  have hP : va_P (dC, dI) vwCl [(ad 0, .inr (10, oM ad m_undoCount m_thrown m_hasSnapshot a_m_fam m_rows m_lineLength m_formattedLength m_bufferLength m_limit m_next m_beginsAt m_token m_error m_errorAt m_errorPosition m_nested m_codeCount)), ((ad 35), .inl (cI, 200, .inl m_codes)), (a_m_fam, .inl (cJ, 130, .inr (.inl m_fam))), ((ad 9), .inl (cI, 16, .inl m_generation)), ((ad 36), .inl (cJ, 200, .inr (.inl m_stack)))] H := by rw [hH]; exact hP
  suffices hgo : W p l e ({ frames := 5, cells := 0, slots := 0, locals := 115 }) s m ([.ref (ad 0), .int v1] : List Value).toArray below meth c H locs 0 0 (MQ below (gQ dC dI (some (.int (bI r9))) A [(ad 0, .inr (10, oM ad m_undoCount m_thrown m_hasSnapshot a_m_fam m_rows m_lineLength m_formattedLength m_bufferLength m_limit m_next m_beginsAt m_token m_error m_errorAt m_errorPosition m_nested m_codeCount)), ((ad 35), .inl (cI, 200, .inl m_codes)), (a_m_fam, .inl (cJ, 130, .inr (.inl m_fam))), ((ad 9), .inl (cI, 16, .inl m_generation)), ((ad 36), .inl (cJ, 200, .inr (.inl m_stack_9)))]) ([.ref (ad 0), .int v1] : List Value).toArray s 0 0 A) (F0 m 0 ls []) by rw [hH, hlc] at hgo; exact hgo
  rw [p10_holdsFor] at hf
  have J123 : ∀ (m_stack_123 : Nat → Int64) (H : Heap) (locs : List Loc) (ls : Array Slot), p10_holdsFor_J123 m_stack_123 = some (r9, m_stack_9) → va_P (dC, dI) vwCl [(ad 0, .inr (10, oM ad m_undoCount m_thrown m_hasSnapshot a_m_fam m_rows m_lineLength m_formattedLength m_bufferLength m_limit m_next m_beginsAt m_token m_error m_errorAt m_errorPosition m_nested m_codeCount)), ((ad 35), .inl (cI, 200, .inl m_codes)), (a_m_fam, .inl (cJ, 130, .inr (.inl m_fam))), ((ad 9), .inl (cI, 16, .inl m_generation)), ((ad 36), .inl (cJ, 200, .inr (.inl m_stack_123)))] H → va_D A [(ad 0, .inr (10, oM ad m_undoCount m_thrown m_hasSnapshot a_m_fam m_rows m_lineLength m_formattedLength m_bufferLength m_limit m_next m_beginsAt m_token m_error m_errorAt m_errorPosition m_nested m_codeCount)), ((ad 35), .inl (cI, 200, .inl m_codes)), (a_m_fam, .inl (cJ, 130, .inr (.inl m_fam))), ((ad 9), .inl (cI, 16, .inl m_generation)), ((ad 36), .inl (cJ, 200, .inr (.inl m_stack_123)))] → va_S A s.heap H locs → lv_has ls 5 [(0, .ref (ad 0))] → W p l e ({ frames := 5, cells := 0, slots := 0, locals := 115 }) s m ([.ref (ad 0), .int v1] : List Value).toArray below meth c H locs 0 0 (MQ below (gQ dC dI (some (.int (bI r9))) A [(ad 0, .inr (10, oM ad m_undoCount m_thrown m_hasSnapshot a_m_fam m_rows m_lineLength m_formattedLength m_bufferLength m_limit m_next m_beginsAt m_token m_error m_errorAt m_errorPosition m_nested m_codeCount)), ((ad 35), .inl (cI, 200, .inl m_codes)), (a_m_fam, .inl (cJ, 130, .inr (.inl m_fam))), ((ad 9), .inl (cI, 16, .inl m_generation)), ((ad 36), .inl (cJ, 200, .inr (.inl m_stack_9)))]) ([.ref (ad 0), .int v1] : List Value).toArray s 0 0 A) (F0 m 123 ls []) := by
    intro m_stack_123 H locs ls hf hP hD hS hl
    rw [p10_holdsFor_J123] at hf
    refine lv_aload_n hx hb dX10_holdsFor_123 rfl (lv_at hl 0 rfl) ?_
    refine va_get (D := (dC, dI)) (ci := 10) (v := .ref (ad 36)) (C := RX10) (T := TX10) (N := 37) hx hb htg inX10 hown hE.1 hP 0 rfl rfl 35 (by decide) (htg _ tw1417) (fun _ h9 => h9) rfl dX10_holdsFor_124 ?_
    refine lv_iconst (v := 0) hx hb dX10_holdsFor_127 (by decide) ?_
    obtain ⟨h9, hf⟩ := gd_s hf
    refine va_lald hx hb hE.1 hP 4 1 rfl rfl h9 dX10_holdsFor_128 ?_
    refine lv_lconst (v := 1) hx hb dX10_holdsFor_129 (by decide) ?_
    refine W.lcmp hx hb dX10_holdsFor_130 ?_
    refine lv_if_ne (tgt := 138) hx hb dX10_holdsFor_131 (by decide) (fun h9 => ?_) (fun h9 => ?_)
    · have h9 := fun q => h9 ((lg_cmp_eq _ _).mpr q)
      have hf := itf h9 hf
      refine lv_iconst (v := 0) hx hb dX10_holdsFor_138 (by decide) ?_
      cases hf
      exact g_zret S hr (nar_bI false) hlocks hP hD hS dX10_holdsFor_139
    · have h9 := (lg_cmp_eq _ _).mp h9
      have hf := itt h9 hf
      refine lv_iconst (v := 1) hx hb dX10_holdsFor_134 (by decide) ?_
      refine lv_goto (tgt := 139) hx hb dX10_holdsFor_135 (by decide) ?_
      cases hf
      exact g_zret S hr (nar_bI true) hlocks hP hD hS dX10_holdsFor_139
  refine lv_iconst (v := 0) hx hb dX10_holdsFor_0 (by decide) ?_
  refine lv_istore_n (lv' := [(2, .int (0 : Int32)), (0, .ref (ad 0)), (1, .int v1)]) hx hb dX10_holdsFor_1 rfl hl (by decide) rfl (fun ls hl => ?_)
  refine lv_iconst (v := 0) hx hb dX10_holdsFor_2 (by decide) ?_
  refine lv_istore_n (lv' := [(3, .int (0 : Int32)), (2, .int (0 : Int32)), (0, .ref (ad 0)), (1, .int v1)]) hx hb dX10_holdsFor_3 rfl hl (by decide) rfl (fun ls hl => ?_)
  have K4 : ∀ (n4 : Nat) (v2_4 : Int32) (v3_4 : Int32) (m_stack_4 : Nat → Int64) (ex4 : (Nat → Int64)) (H : Heap) (locs : List Loc) (ls : Array Slot), p10_holdsFor_L4 m_codeCount m_codes m_fam m_generation v1 n4 v2_4 v3_4 m_stack_4 = some ex4 → (fun m_stack_x4 => p10_holdsFor_J123 m_stack_x4) ex4 = some (r9, m_stack_9) → va_P (dC, dI) vwCl [(ad 0, .inr (10, oM ad m_undoCount m_thrown m_hasSnapshot a_m_fam m_rows m_lineLength m_formattedLength m_bufferLength m_limit m_next m_beginsAt m_token m_error m_errorAt m_errorPosition m_nested m_codeCount)), ((ad 35), .inl (cI, 200, .inl m_codes)), (a_m_fam, .inl (cJ, 130, .inr (.inl m_fam))), ((ad 9), .inl (cI, 16, .inl m_generation)), ((ad 36), .inl (cJ, 200, .inr (.inl m_stack_4)))] H → va_D A [(ad 0, .inr (10, oM ad m_undoCount m_thrown m_hasSnapshot a_m_fam m_rows m_lineLength m_formattedLength m_bufferLength m_limit m_next m_beginsAt m_token m_error m_errorAt m_errorPosition m_nested m_codeCount)), ((ad 35), .inl (cI, 200, .inl m_codes)), (a_m_fam, .inl (cJ, 130, .inr (.inl m_fam))), ((ad 9), .inl (cI, 16, .inl m_generation)), ((ad 36), .inl (cJ, 200, .inr (.inl m_stack_4)))] → va_S A s.heap H locs → lv_has ls 5 [(0, .ref (ad 0)), (1, .int v1), (2, .int v2_4), (3, .int v3_4)] → W p l e ({ frames := 5, cells := 0, slots := 0, locals := 115 }) s m ([.ref (ad 0), .int v1] : List Value).toArray below meth c H locs 0 0 (MQ below (gQ dC dI (some (.int (bI r9))) A [(ad 0, .inr (10, oM ad m_undoCount m_thrown m_hasSnapshot a_m_fam m_rows m_lineLength m_formattedLength m_bufferLength m_limit m_next m_beginsAt m_token m_error m_errorAt m_errorPosition m_nested m_codeCount)), ((ad 35), .inl (cI, 200, .inl m_codes)), (a_m_fam, .inl (cJ, 130, .inr (.inl m_fam))), ((ad 9), .inl (cI, 16, .inl m_generation)), ((ad 36), .inl (cJ, 200, .inr (.inl m_stack_9)))]) ([.ref (ad 0), .int v1] : List Value).toArray s 0 0 A) (F0 m 4 ls []) := by
    intro n4
    induction n4 with
    | zero => intro v2_4 v3_4 m_stack_4 ex4 H locs ls hf; rw [p10_holdsFor_L4] at hf; cases hf
    | succ n4 ih4 =>
      intro v2_4 v3_4 m_stack_4 ex4 H locs ls hf hk4 hP hD hS hl
      rw [p10_holdsFor_L4, p10_holdsFor_L4_B] at hf
      refine lv_iload_n hx hb dX10_holdsFor_4 rfl (lv_at hl 3 rfl) ?_
      refine lv_aload_n hx hb dX10_holdsFor_5 rfl (lv_at hl 0 rfl) ?_
      refine va_get (D := (dC, dI)) (ci := 10) (v := .int m_codeCount) (C := RX10) (T := TX10) (N := 37) hx hb htg inX10 hown hE.1 hP 0 rfl rfl 36 (by decide) (htg _ tw1418) (fun _ h9 => h9) rfl dX10_holdsFor_6 ?_
      refine lv_icmp_ge (tgt := 123) hx hb dX10_holdsFor_9 (by decide) (fun h9 => ?_) (fun h9 => ?_)
      · have hf := itt h9 hf
        cases hf
        have hf := hk4
        exact J123 m_stack_4 H locs ls hf hP hD hS (lv_sub hl [0] rfl)
      · have hf := itf h9 hf
        refine lv_aload_n hx hb dX10_holdsFor_12 rfl (lv_at hl 0 rfl) ?_
        refine va_get (D := (dC, dI)) (ci := 10) (v := .ref (ad 35)) (C := RX10) (T := TX10) (N := 37) hx hb htg inX10 hown hE.1 hP 0 rfl rfl 34 (by decide) (htg _ tw1416) (fun _ h9 => h9) rfl dX10_holdsFor_13 ?_
        refine lv_iload_n hx hb dX10_holdsFor_16 rfl (lv_at hl 3 rfl) ?_
        obtain ⟨h9, hf⟩ := gd_s hf
        refine va_iald hx hb hE.1 hP 1 0 rfl rfl h9 dX10_holdsFor_17 ?_
        refine lv_topi (fun t18 h9 => ?_)
        have hf := lb_e h9 hf
        refine lv_istore (lv' := [(4, .int t18), (0, .ref (ad 0)), (1, .int v1), (2, .int v2_4), (3, .int v3_4)]) hx hb dX10_holdsFor_18 hl (by decide) rfl (fun ls hl => ?_)
        refine lv_iload hx hb dX10_holdsFor_20 (lv_at hl 0 rfl) ?_
        refine lv_bipush (v := -23) hx hb dX10_holdsFor_22 (by decide) ?_
        refine lv_icmp_ne (tgt := 48) hx hb dX10_holdsFor_24 (by decide) (fun h9 => ?_) (fun h9 => ?_)
        · have hf := itf h9 hf
          refine lv_iload hx hb dX10_holdsFor_48 (lv_at hl 0 rfl) ?_
          refine lv_bipush (v := -20) hx hb dX10_holdsFor_50 (by decide) ?_
          refine lv_icmp_le (tgt := 87) hx hb dX10_holdsFor_52 (by decide) (fun h9 => ?_) (fun h9 => ?_)
          · have hf := itt h9 hf
            obtain ⟨t87, h9⟩ : ∃ z : Int32, z = (v2_4 + (-1 : Int32)) := ⟨_, rfl⟩
            have hf := lb_e h9 hf
            refine lv_iinc (v := t87) (lv' := [(2, .int t87), (4, .int t18), (0, .ref (ad 0)), (1, .int v1), (3, .int v3_4)]) hx hb dX10_holdsFor_87 hl (k := 3) rfl (by rw [h9]; rfl) (by decide) rfl (fun ls hl => ?_)
            refine lv_aload_n hx hb dX10_holdsFor_90 rfl (lv_at hl 2 rfl) ?_
            refine va_get (D := (dC, dI)) (ci := 10) (v := .ref (ad 36)) (C := RX10) (T := TX10) (N := 37) hx hb htg inX10 hown hE.1 hP 0 rfl rfl 35 (by decide) (htg _ tw1417) (fun _ h9 => h9) rfl dX10_holdsFor_91 ?_
            refine lv_iload_n hx hb dX10_holdsFor_94 rfl (lv_at hl 0 rfl) ?_
            refine lv_iconst (v := 1) hx hb dX10_holdsFor_95 (by decide) ?_
            refine lv_isub hx hb dX10_holdsFor_96 ?_
            refine lv_iload hx hb dX10_holdsFor_97 (lv_at hl 1 rfl) ?_
            refine lv_aload_n hx hb dX10_holdsFor_99 rfl (lv_at hl 2 rfl) ?_
            refine va_get (D := (dC, dI)) (ci := 10) (v := .ref (ad 36)) (C := RX10) (T := TX10) (N := 37) hx hb htg inX10 hown hE.1 hP 0 rfl rfl 35 (by decide) (htg _ tw1417) (fun _ h9 => h9) rfl dX10_holdsFor_100 ?_
            refine lv_iload_n hx hb dX10_holdsFor_103 rfl (lv_at hl 0 rfl) ?_
            refine lv_iconst (v := 1) hx hb dX10_holdsFor_104 (by decide) ?_
            refine lv_isub hx hb dX10_holdsFor_105 ?_
            obtain ⟨h9, hf⟩ := gd_s hf
            refine va_lald hx hb hE.1 hP 4 1 rfl rfl h9 dX10_holdsFor_106 ?_
            refine lv_aload_n hx hb dX10_holdsFor_107 rfl (lv_at hl 2 rfl) ?_
            refine va_get (D := (dC, dI)) (ci := 10) (v := .ref (ad 36)) (C := RX10) (T := TX10) (N := 37) hx hb htg inX10 hown hE.1 hP 0 rfl rfl 35 (by decide) (htg _ tw1417) (fun _ h9 => h9) rfl dX10_holdsFor_108 ?_
            refine lv_iload_n hx hb dX10_holdsFor_111 rfl (lv_at hl 0 rfl) ?_
            obtain ⟨h9, hf⟩ := gd_s hf
            refine va_lald hx hb hE.1 hP 4 1 rfl rfl h9 dX10_holdsFor_112 ?_
            refine gcS (index := 504) S hE (c_X10_operate t18 (m_stack_4 (t87 - (1 : Int32)).toNatClampNeg) (m_stack_4 t87.toNatClampNeg) (p10_operate t18 (m_stack_4 (t87 - (1 : Int32)).toNatClampNeg) (m_stack_4 t87.toNatClampNeg)) rfl) mX10_operate tw2071 ⟨Nat.le_of_ble_eq_true rfl, Nat.le_of_ble_eq_true rfl⟩ hP hD hS hA ⟨Nat.zero_le _, Nat.zero_le _⟩ (wr := [(ad 0, .inr (10, oM ad m_undoCount m_thrown m_hasSnapshot a_m_fam m_rows m_lineLength m_formattedLength m_bufferLength m_limit m_next m_beginsAt m_token m_error m_errorAt m_errorPosition m_nested m_codeCount)), ((ad 35), .inl (cI, 200, .inl m_codes)), (a_m_fam, .inl (cJ, 130, .inr (.inl m_fam))), ((ad 9), .inl (cI, 16, .inl m_generation)), ((ad 36), .inl (cJ, 200, .inr (.inl m_stack_4)))]) [] [0, 1, 2, 3, 4] rfl rfl rfl rfl (by decide) (As := [.int t18, .long (m_stack_4 (t87 - (1 : Int32)).toNatClampNeg), .long (m_stack_4 t87.toNatClampNeg)]) (rest := [.int (t87 - (1 : Int32)), .ref (ad 36)]) rfl hl.1 rfl (Nat.le_of_ble_eq_true rfl) dX10_holdsFor_113 (fun H locs hP hD hS => ?_)
            refine W.eq (g2 := F0 m 116 ls [.long (p10_operate t18 (m_stack_4 (t87 - (1 : Int32)).toNatClampNeg) (m_stack_4 t87.toNatClampNeg)), .int (t87 - (1 : Int32)), .ref (ad 36)]) rfl ?_
            have hP : va_P (dC, dI) vwCl [(ad 0, .inr (10, oM ad m_undoCount m_thrown m_hasSnapshot a_m_fam m_rows m_lineLength m_formattedLength m_bufferLength m_limit m_next m_beginsAt m_token m_error m_errorAt m_errorPosition m_nested m_codeCount)), ((ad 35), .inl (cI, 200, .inl m_codes)), (a_m_fam, .inl (cJ, 130, .inr (.inl m_fam))), ((ad 9), .inl (cI, 16, .inl m_generation)), ((ad 36), .inl (cJ, 200, .inr (.inl m_stack_4)))] H := hP
            have hD : va_D A [(ad 0, .inr (10, oM ad m_undoCount m_thrown m_hasSnapshot a_m_fam m_rows m_lineLength m_formattedLength m_bufferLength m_limit m_next m_beginsAt m_token m_error m_errorAt m_errorPosition m_nested m_codeCount)), ((ad 35), .inl (cI, 200, .inl m_codes)), (a_m_fam, .inl (cJ, 130, .inr (.inl m_fam))), ((ad 9), .inl (cI, 16, .inl m_generation)), ((ad 36), .inl (cJ, 200, .inr (.inl m_stack_4)))] := hD
            obtain ⟨h9, hf⟩ := gd_s hf
            refine va_last hx hb hE.1 hP hD hS 4 1 rfl rfl h9 dX10_holdsFor_116 (fun H locs hP hD hS => ?_)
            obtain ⟨g116, h9⟩ : ∃ z, z = (vp_updL m_stack_4 (t87 - (1 : Int32)).toNatClampNeg (p10_operate t18 (m_stack_4 (t87 - (1 : Int32)).toNatClampNeg) (m_stack_4 t87.toNatClampNeg))) := ⟨_, rfl⟩
            have hf := lb_e h9 hf
            have hP : va_P (dC, dI) vwCl [(ad 0, .inr (10, oM ad m_undoCount m_thrown m_hasSnapshot a_m_fam m_rows m_lineLength m_formattedLength m_bufferLength m_limit m_next m_beginsAt m_token m_error m_errorAt m_errorPosition m_nested m_codeCount)), ((ad 35), .inl (cI, 200, .inl m_codes)), (a_m_fam, .inl (cJ, 130, .inr (.inl m_fam))), ((ad 9), .inl (cI, 16, .inl m_generation)), ((ad 36), .inl (cJ, 200, .inr (.inl g116)))] H := by rw [h9]; exact hP
            have hD : va_D A [(ad 0, .inr (10, oM ad m_undoCount m_thrown m_hasSnapshot a_m_fam m_rows m_lineLength m_formattedLength m_bufferLength m_limit m_next m_beginsAt m_token m_error m_errorAt m_errorPosition m_nested m_codeCount)), ((ad 35), .inl (cI, 200, .inl m_codes)), (a_m_fam, .inl (cJ, 130, .inr (.inl m_fam))), ((ad 9), .inl (cI, 16, .inl m_generation)), ((ad 36), .inl (cJ, 200, .inr (.inl g116)))] := by rw [h9]; exact hD
            obtain ⟨t117, h9⟩ : ∃ z : Int32, z = (v3_4 + (1 : Int32)) := ⟨_, rfl⟩
            have hf := lb_e h9 hf
            refine lv_iinc (v := t117) (lv' := [(3, .int t117), (2, .int t87), (4, .int t18), (0, .ref (ad 0)), (1, .int v1)]) hx hb dX10_holdsFor_117 hl (k := 4) rfl (by rw [h9]; rfl) (by decide) rfl (fun ls hl => ?_)
            refine lv_goto (tgt := 4) hx hb dX10_holdsFor_120 (by decide) ?_
            exact ih4 t87 t117 g116 ex4 H locs ls hf hk4 hP hD hS (lv_sub hl [3, 4, 1, 0] rfl)
          · have hf := itf h9 hf
            refine lv_aload_n hx hb dX10_holdsFor_55 rfl (lv_at hl 1 rfl) ?_
            refine va_get (D := (dC, dI)) (ci := 10) (v := .ref (ad 36)) (C := RX10) (T := TX10) (N := 37) hx hb htg inX10 hown hE.1 hP 0 rfl rfl 35 (by decide) (htg _ tw1417) (fun _ h9 => h9) rfl dX10_holdsFor_56 ?_
            refine lv_iload_n hx hb dX10_holdsFor_59 rfl (lv_at hl 3 rfl) ?_
            refine lv_iload hx hb dX10_holdsFor_60 (lv_at hl 0 rfl) ?_
            refine lv_if_lt (tgt := 71) hx hb dX10_holdsFor_62 (by decide) (fun h9 => ?_) (fun h9 => ?_)
            · have hf := itt h9 hf
              refine lv_aload_n hx hb dX10_holdsFor_71 rfl (lv_at hl 1 rfl) ?_
              refine lv_iload_n hx hb dX10_holdsFor_72 rfl (lv_at hl 2 rfl) ?_
              refine lv_iconst (v := -1) hx hb dX10_holdsFor_73 (by decide) ?_
              refine lv_iload hx hb dX10_holdsFor_74 (lv_at hl 0 rfl) ?_
              refine lv_isub hx hb dX10_holdsFor_76 ?_
              obtain ⟨r77, h9, hf⟩ := ob_s hf
              refine gcV (index := 501) S hE (c_X10_property ad a_m_fam m_undoCount m_thrown m_hasSnapshot m_rows m_lineLength m_formattedLength m_bufferLength m_limit m_next m_beginsAt m_token m_error m_errorAt m_errorPosition m_nested m_codeCount m_fam m_generation v1 ((-1 : Int32) - t18) r77 h9) mX10_property tw2067 ⟨Nat.le_of_ble_eq_true rfl, Nat.le_of_ble_eq_true rfl⟩ hP hD hS hA ⟨Nat.zero_le _, Nat.zero_le _⟩ 0 10 rfl rfl rfl (wr := [((ad 35), .inl (cI, 200, .inl m_codes)), ((ad 36), .inl (cJ, 200, .inr (.inl m_stack_4)))]) [0, 2, 3] [1, 4] rfl rfl rfl rfl (by decide) (As := [.int v1, .int ((-1 : Int32) - t18)]) (rest := [.int v2_4, .ref (ad 36)]) rfl hl.1 rfl (Nat.le_of_ble_eq_true rfl) dX10_holdsFor_77 (fun H locs hP hD hS => ?_)
              refine W.eq (g2 := F0 m 80 ls [.long r77, .int v2_4, .ref (ad 36)]) rfl ?_
              have hP : va_P (dC, dI) vwCl [((ad 35), .inl (cI, 200, .inl m_codes)), ((ad 36), .inl (cJ, 200, .inr (.inl m_stack_4))), (ad 0, .inr (10, oM ad m_undoCount m_thrown m_hasSnapshot a_m_fam m_rows m_lineLength m_formattedLength m_bufferLength m_limit m_next m_beginsAt m_token m_error m_errorAt m_errorPosition m_nested m_codeCount)), (a_m_fam, .inl (cJ, 130, .inr (.inl m_fam))), ((ad 9), .inl (cI, 16, .inl m_generation))] H := hP
              have hD : va_D A [((ad 35), .inl (cI, 200, .inl m_codes)), ((ad 36), .inl (cJ, 200, .inr (.inl m_stack_4))), (ad 0, .inr (10, oM ad m_undoCount m_thrown m_hasSnapshot a_m_fam m_rows m_lineLength m_formattedLength m_bufferLength m_limit m_next m_beginsAt m_token m_error m_errorAt m_errorPosition m_nested m_codeCount)), (a_m_fam, .inl (cJ, 130, .inr (.inl m_fam))), ((ad 9), .inl (cI, 16, .inl m_generation))] := hD
              obtain ⟨h9, hf⟩ := gd_s hf
              refine va_last hx hb hE.1 hP hD hS 1 1 rfl rfl h9 dX10_holdsFor_80 (fun H locs hP hD hS => ?_)
              obtain ⟨g80, h9⟩ : ∃ z, z = (vp_updL m_stack_4 v2_4.toNatClampNeg r77) := ⟨_, rfl⟩
              have hf := lb_e h9 hf
              have hP : va_P (dC, dI) vwCl [((ad 35), .inl (cI, 200, .inl m_codes)), ((ad 36), .inl (cJ, 200, .inr (.inl g80))), (ad 0, .inr (10, oM ad m_undoCount m_thrown m_hasSnapshot a_m_fam m_rows m_lineLength m_formattedLength m_bufferLength m_limit m_next m_beginsAt m_token m_error m_errorAt m_errorPosition m_nested m_codeCount)), (a_m_fam, .inl (cJ, 130, .inr (.inl m_fam))), ((ad 9), .inl (cI, 16, .inl m_generation))] H := by rw [h9]; exact hP
              have hD : va_D A [((ad 35), .inl (cI, 200, .inl m_codes)), ((ad 36), .inl (cJ, 200, .inr (.inl g80))), (ad 0, .inr (10, oM ad m_undoCount m_thrown m_hasSnapshot a_m_fam m_rows m_lineLength m_formattedLength m_bufferLength m_limit m_next m_beginsAt m_token m_error m_errorAt m_errorPosition m_nested m_codeCount)), (a_m_fam, .inl (cJ, 130, .inr (.inl m_fam))), ((ad 9), .inl (cI, 16, .inl m_generation))] := by rw [h9]; exact hD
              obtain ⟨t81, h9⟩ : ∃ z : Int32, z = (v2_4 + (1 : Int32)) := ⟨_, rfl⟩
              have hf := lb_e h9 hf
              refine lv_iinc (v := t81) (lv' := [(2, .int t81), (4, .int t18), (0, .ref (ad 0)), (1, .int v1), (3, .int v3_4)]) hx hb dX10_holdsFor_81 hl (k := 3) rfl (by rw [h9]; rfl) (by decide) rfl (fun ls hl => ?_)
              refine lv_goto (tgt := 117) hx hb dX10_holdsFor_84 (by decide) ?_
              obtain ⟨t117, h9⟩ : ∃ z : Int32, z = (v3_4 + (1 : Int32)) := ⟨_, rfl⟩
              have hf := lb_e h9 hf
              refine lv_iinc (v := t117) (lv' := [(3, .int t117), (2, .int t81), (4, .int t18), (0, .ref (ad 0)), (1, .int v1)]) hx hb dX10_holdsFor_117 hl (k := 4) rfl (by rw [h9]; rfl) (by decide) rfl (fun ls hl => ?_)
              refine lv_goto (tgt := 4) hx hb dX10_holdsFor_120 (by decide) ?_
              exact ih4 t81 t117 g80 ex4 H locs ls hf hk4 (hP.sub [2, 0, 3, 4, 1] rfl) (hD.sub [2, 0, 3, 4, 1] (by decide) rfl) hS (lv_sub hl [3, 4, 1, 0] rfl)
            · have hf := itf h9 hf
              refine lv_iload hx hb dX10_holdsFor_65 (lv_at hl 0 rfl) ?_
              refine lv_i2l hx hb dX10_holdsFor_67 rfl ?_
              refine lv_goto (tgt := 80) hx hb dX10_holdsFor_68 (by decide) ?_
              obtain ⟨h9, hf⟩ := gd_s hf
              refine va_last hx hb hE.1 hP hD hS 4 1 rfl rfl h9 dX10_holdsFor_80 (fun H locs hP hD hS => ?_)
              obtain ⟨g80, h9⟩ : ∃ z, z = (vp_updL m_stack_4 v2_4.toNatClampNeg t18.toInt64) := ⟨_, rfl⟩
              have hf := lb_e h9 hf
              have hP : va_P (dC, dI) vwCl [(ad 0, .inr (10, oM ad m_undoCount m_thrown m_hasSnapshot a_m_fam m_rows m_lineLength m_formattedLength m_bufferLength m_limit m_next m_beginsAt m_token m_error m_errorAt m_errorPosition m_nested m_codeCount)), ((ad 35), .inl (cI, 200, .inl m_codes)), (a_m_fam, .inl (cJ, 130, .inr (.inl m_fam))), ((ad 9), .inl (cI, 16, .inl m_generation)), ((ad 36), .inl (cJ, 200, .inr (.inl g80)))] H := by rw [h9]; exact hP
              have hD : va_D A [(ad 0, .inr (10, oM ad m_undoCount m_thrown m_hasSnapshot a_m_fam m_rows m_lineLength m_formattedLength m_bufferLength m_limit m_next m_beginsAt m_token m_error m_errorAt m_errorPosition m_nested m_codeCount)), ((ad 35), .inl (cI, 200, .inl m_codes)), (a_m_fam, .inl (cJ, 130, .inr (.inl m_fam))), ((ad 9), .inl (cI, 16, .inl m_generation)), ((ad 36), .inl (cJ, 200, .inr (.inl g80)))] := by rw [h9]; exact hD
              obtain ⟨t81, h9⟩ : ∃ z : Int32, z = (v2_4 + (1 : Int32)) := ⟨_, rfl⟩
              have hf := lb_e h9 hf
              refine lv_iinc (v := t81) (lv' := [(2, .int t81), (4, .int t18), (0, .ref (ad 0)), (1, .int v1), (3, .int v3_4)]) hx hb dX10_holdsFor_81 hl (k := 3) rfl (by rw [h9]; rfl) (by decide) rfl (fun ls hl => ?_)
              refine lv_goto (tgt := 117) hx hb dX10_holdsFor_84 (by decide) ?_
              obtain ⟨t117, h9⟩ : ∃ z : Int32, z = (v3_4 + (1 : Int32)) := ⟨_, rfl⟩
              have hf := lb_e h9 hf
              refine lv_iinc (v := t117) (lv' := [(3, .int t117), (2, .int t81), (4, .int t18), (0, .ref (ad 0)), (1, .int v1)]) hx hb dX10_holdsFor_117 hl (k := 4) rfl (by rw [h9]; rfl) (by decide) rfl (fun ls hl => ?_)
              refine lv_goto (tgt := 4) hx hb dX10_holdsFor_120 (by decide) ?_
              exact ih4 t81 t117 g80 ex4 H locs ls hf hk4 hP hD hS (lv_sub hl [3, 4, 1, 0] rfl)
        · have hf := itt h9 hf
          refine lv_aload_n hx hb dX10_holdsFor_27 rfl (lv_at hl 1 rfl) ?_
          refine va_get (D := (dC, dI)) (ci := 10) (v := .ref (ad 36)) (C := RX10) (T := TX10) (N := 37) hx hb htg inX10 hown hE.1 hP 0 rfl rfl 35 (by decide) (htg _ tw1417) (fun _ h9 => h9) rfl dX10_holdsFor_28 ?_
          refine lv_iload_n hx hb dX10_holdsFor_31 rfl (lv_at hl 3 rfl) ?_
          refine lv_iconst (v := 1) hx hb dX10_holdsFor_32 (by decide) ?_
          refine lv_isub hx hb dX10_holdsFor_33 ?_
          refine lv_lconst (v := 1) hx hb dX10_holdsFor_34 (by decide) ?_
          refine lv_aload_n hx hb dX10_holdsFor_35 rfl (lv_at hl 1 rfl) ?_
          refine va_get (D := (dC, dI)) (ci := 10) (v := .ref (ad 36)) (C := RX10) (T := TX10) (N := 37) hx hb htg inX10 hown hE.1 hP 0 rfl rfl 35 (by decide) (htg _ tw1417) (fun _ h9 => h9) rfl dX10_holdsFor_36 ?_
          refine lv_iload_n hx hb dX10_holdsFor_39 rfl (lv_at hl 3 rfl) ?_
          refine lv_iconst (v := 1) hx hb dX10_holdsFor_40 (by decide) ?_
          refine lv_isub hx hb dX10_holdsFor_41 ?_
          obtain ⟨h9, hf⟩ := gd_s hf
          refine va_lald hx hb hE.1 hP 4 1 rfl rfl h9 dX10_holdsFor_42 ?_
          refine lv_lsub hx hb dX10_holdsFor_43 ?_
          obtain ⟨h9, hf⟩ := gd_s hf
          refine va_last hx hb hE.1 hP hD hS 4 1 rfl rfl h9 dX10_holdsFor_44 (fun H locs hP hD hS => ?_)
          obtain ⟨g44, h9⟩ : ∃ z, z = (vp_updL m_stack_4 (v2_4 - (1 : Int32)).toNatClampNeg ((1 : Int64) - (m_stack_4 (v2_4 - (1 : Int32)).toNatClampNeg))) := ⟨_, rfl⟩
          have hf := lb_e h9 hf
          have hP : va_P (dC, dI) vwCl [(ad 0, .inr (10, oM ad m_undoCount m_thrown m_hasSnapshot a_m_fam m_rows m_lineLength m_formattedLength m_bufferLength m_limit m_next m_beginsAt m_token m_error m_errorAt m_errorPosition m_nested m_codeCount)), ((ad 35), .inl (cI, 200, .inl m_codes)), (a_m_fam, .inl (cJ, 130, .inr (.inl m_fam))), ((ad 9), .inl (cI, 16, .inl m_generation)), ((ad 36), .inl (cJ, 200, .inr (.inl g44)))] H := by rw [h9]; exact hP
          have hD : va_D A [(ad 0, .inr (10, oM ad m_undoCount m_thrown m_hasSnapshot a_m_fam m_rows m_lineLength m_formattedLength m_bufferLength m_limit m_next m_beginsAt m_token m_error m_errorAt m_errorPosition m_nested m_codeCount)), ((ad 35), .inl (cI, 200, .inl m_codes)), (a_m_fam, .inl (cJ, 130, .inr (.inl m_fam))), ((ad 9), .inl (cI, 16, .inl m_generation)), ((ad 36), .inl (cJ, 200, .inr (.inl g44)))] := by rw [h9]; exact hD
          refine lv_goto (tgt := 117) hx hb dX10_holdsFor_45 (by decide) ?_
          obtain ⟨t117, h9⟩ : ∃ z : Int32, z = (v3_4 + (1 : Int32)) := ⟨_, rfl⟩
          have hf := lb_e h9 hf
          refine lv_iinc (v := t117) (lv' := [(3, .int t117), (4, .int t18), (0, .ref (ad 0)), (1, .int v1), (2, .int v2_4)]) hx hb dX10_holdsFor_117 hl (k := 4) rfl (by rw [h9]; rfl) (by decide) rfl (fun ls hl => ?_)
          refine lv_goto (tgt := 4) hx hb dX10_holdsFor_120 (by decide) ?_
          exact ih4 v2_4 t117 g44 ex4 H locs ls hf hk4 hP hD hS (lv_sub hl [2, 3, 4, 0] rfl)
  obtain ⟨ex, h9, hf⟩ := ob_s hf
  exact K4 FU (0 : Int32) (0 : Int32) m_stack ex H locs ls h9 hf hP hD hS (lv_sub hl [2, 3, 1, 0] rfl)
def p10_kinshipOf_J156 (v3_156 : Int32) (m_kinships_156 : Nat → Int64) : Option (Int64 × (Nat → Int64)) := gd v3_156 256 (some ((m_kinships_156 v3_156.toNatClampNeg), m_kinships_156))
def p10_kinshipOf_J134 (v1 : Int32) (v2 : Int32) (v3_134 : Int32) (v7_134 : Int64) (m_kinships_134 : Nat → Int64) : Option (Int64 × (Nat → Int64)) := (if v1 = v2 then gd v3_134 256 (lb (vp_updL m_kinships_134 v3_134.toNatClampNeg ((549755813888 : Int64) + v7_134)) (fun g155 => (p10_kinshipOf_J156 v3_134 g155))) else gd v3_134 256 (lb (vp_updL m_kinships_134 v3_134.toNatClampNeg v7_134) (fun g155 => (p10_kinshipOf_J156 v3_134 g155))))
def p10_kinshipOf_J56 (kF : (Nat → Int64) → (Nat → Int32) → (Nat → Int64) → Int32 → Int32 → Option (Int64 × (Nat → Int64))) (m_fam : Nat → Int64) (m_generation : Nat → Int32) (m_kinships : Nat → Int64) (v1 : Int32) (v2 : Int32) (v3_56 : Int32) (v4_56 : Int32) (v5_56 : Int32) : Option (Int64 × (Nat → Int64)) := ob (p10_parentsOf m_fam v4_56) (fun r59 => (if r59 = (-1 : Int32) then (p10_kinshipOf_J134 v1 v2 v3_56 (0 : Int64) m_kinships) else ob (p10_partner m_fam r59 (0 : Int32)) (fun r77 => ob (p10_partner m_fam r59 (1 : Int32)) (fun r86 => (if v1 = v2 then ob (kF m_fam m_generation m_kinships r77 r86) (uc2 fun r101 m_kinships_101 => lb (r101 / (2 : Int64)) (fun t132 => (p10_kinshipOf_J134 v1 v2 v3_56 t132 m_kinships_101))) else ob (kF m_fam m_generation m_kinships v5_56 r77) (uc2 fun r116 m_kinships_116 => ob (kF m_fam m_generation m_kinships_116 v5_56 r86) (uc2 fun r124 m_kinships_124 => lb ((r116 + r124) / (2 : Int64)) (fun t132 => (p10_kinshipOf_J134 v1 v2 v3_56 t132 m_kinships_124)))))))))
def p10_kinshipOf_J43 (kF : (Nat → Int64) → (Nat → Int32) → (Nat → Int64) → Int32 → Int32 → Option (Int64 × (Nat → Int64))) (m_fam : Nat → Int64) (m_generation : Nat → Int32) (m_kinships : Nat → Int64) (v1 : Int32) (v2 : Int32) (v3_43 : Int32) (v4_43 : Int32) : Option (Int64 × (Nat → Int64)) := (if v4_43 = v1 then (p10_kinshipOf_J56 kF m_fam m_generation m_kinships v1 v2 v3_43 v4_43 v2) else (p10_kinshipOf_J56 kF m_fam m_generation m_kinships v1 v2 v3_43 v4_43 v1))
def p10_kinshipOf_O (kF : (Nat → Int64) → (Nat → Int32) → (Nat → Int64) → Int32 → Int32 → Option (Int64 × (Nat → Int64))) (m_fam : Nat → Int64) (m_generation : Nat → Int32) (m_kinships : Nat → Int64) (v1 : Int32) (v2 : Int32) : Option (Int64 × (Nat → Int64)) := lb (((16 : Int32) * v1) + v2) (fun t6 => gd t6 256 ((if (m_kinships t6.toNatClampNeg) = (-1 : Int64) then ob (p10_isLater m_generation v1 v2) (fun r30 => (cond r30 (p10_kinshipOf_J43 kF m_fam m_generation m_kinships v1 v2 t6 v1) (p10_kinshipOf_J43 kF m_fam m_generation m_kinships v1 v2 t6 v2))) else gd t6 256 (some ((m_kinships t6.toNatClampNeg), m_kinships)))))
set_option maxHeartbeats 4000000 in
set_option maxRecDepth 100000 in
theorem c_X10_kinshipOf_o (kF : (Nat → Int64) → (Nat → Int32) → (Nat → Int64) → Int32 → Int32 → Option (Int64 × (Nat → Int64))) (fF lF : Nat) (hbF : 60 ≤ fF) (hbL : 3000 ≤ lF) (hF : ∀ (ad : Nat → Nat) (a_m_fam : Nat) (m_undoCount : Int32) (m_thrown : Int32) (m_hasSnapshot : Bool) (m_rows : Int32) (m_lineLength : Int32) (m_formattedLength : Int32) (m_bufferLength : Int32) (m_limit : Int32) (m_next : Int32) (m_beginsAt : Int32) (m_token : Int32) (m_error : Int32) (m_errorAt : Int32) (m_errorPosition : Int32) (m_nested : Int32) (m_codeCount : Int32) (m_fam : Nat → Int64) (m_generation : Nat → Int32) (m_kinships : Nat → Int64) (v1 : Int32) (v2 : Int32) (r9 : Int64) (m_kinships_9 : Nat → Int64) (_ : kF m_fam m_generation m_kinships v1 v2 = some (r9, m_kinships_9)), gM l dC dI cI cJ cZ yX10_kinshipOf cX10_kinshipOf 11 (some .long) fF lF [.ref (ad 0), .int v1, .int v2] [(ad 0, .inr (10, oM ad m_undoCount m_thrown m_hasSnapshot a_m_fam m_rows m_lineLength m_formattedLength m_bufferLength m_limit m_next m_beginsAt m_token m_error m_errorAt m_errorPosition m_nested m_codeCount)), (a_m_fam, .inl (cJ, 130, .inr (.inl m_fam))), ((ad 9), .inl (cI, 16, .inl m_generation)), ((ad 19), .inl (cJ, 256, .inr (.inl m_kinships)))] [(ad 0, .inr (10, oM ad m_undoCount m_thrown m_hasSnapshot a_m_fam m_rows m_lineLength m_formattedLength m_bufferLength m_limit m_next m_beginsAt m_token m_error m_errorAt m_errorPosition m_nested m_codeCount)), (a_m_fam, .inl (cJ, 130, .inr (.inl m_fam))), ((ad 9), .inl (cI, 16, .inl m_generation)), ((ad 19), .inl (cJ, 256, .inr (.inl m_kinships_9)))] (some (.long r9))) (ad : Nat → Nat) (a_m_fam : Nat) (m_undoCount : Int32) (m_thrown : Int32) (m_hasSnapshot : Bool) (m_rows : Int32) (m_lineLength : Int32) (m_formattedLength : Int32) (m_bufferLength : Int32) (m_limit : Int32) (m_next : Int32) (m_beginsAt : Int32) (m_token : Int32) (m_error : Int32) (m_errorAt : Int32) (m_errorPosition : Int32) (m_nested : Int32) (m_codeCount : Int32) (m_fam : Nat → Int64) (m_generation : Nat → Int32) (m_kinships : Nat → Int64) (v1 : Int32) (v2 : Int32) (r9 : Int64) (m_kinships_9 : Nat → Int64) (hf : p10_kinshipOf_O kF m_fam m_generation m_kinships v1 v2 = some (r9, m_kinships_9)) : gM l dC dI cI cJ cZ yX10_kinshipOf cX10_kinshipOf 11 (some .long) (fF + 1) (lF + 30) [.ref (ad 0), .int v1, .int v2] [(ad 0, .inr (10, oM ad m_undoCount m_thrown m_hasSnapshot a_m_fam m_rows m_lineLength m_formattedLength m_bufferLength m_limit m_next m_beginsAt m_token m_error m_errorAt m_errorPosition m_nested m_codeCount)), (a_m_fam, .inl (cJ, 130, .inr (.inl m_fam))), ((ad 9), .inl (cI, 16, .inl m_generation)), ((ad 19), .inl (cJ, 256, .inr (.inl m_kinships)))] [(ad 0, .inr (10, oM ad m_undoCount m_thrown m_hasSnapshot a_m_fam m_rows m_lineLength m_formattedLength m_bufferLength m_limit m_next m_beginsAt m_token m_error m_errorAt m_errorPosition m_nested m_codeCount)), (a_m_fam, .inl (cJ, 130, .inr (.inl m_fam))), ((ad 9), .inl (cI, 16, .inl m_generation)), ((ad 19), .inl (cJ, 256, .inr (.inl m_kinships_9)))] (some (.long r9)) := by
  refine g_start (own := RX10) (by decide +kernel) rfl (Nat.le_of_ble_eq_true rfl) ?_
  intro p e s m below meth c A ls S hr hlocks hE hP hD hS hA hl hin
  have hx := S.1
  have hb := S.2.1
  have hml := S.2.2.1
  have hown := S.2.2.2.1
  have htg : ∀ z ∈ gw, z.before ([.ref (ad 0), .int v1, .int v2] : List Value).toArray s = true := fun w h => S.2.2.2.2 w (List.mem_cons_of_mem _ h)
  have hl : lv_has ls 11 [(0, .ref (ad 0)), (1, .int v1), (2, .int v2)] := hl
  have hS0 := hS
  obtain ⟨H, hH⟩ : ∃ H, H = s.heap := ⟨_, rfl⟩
  obtain ⟨locs, hlc⟩ : ∃ locs : List Loc, locs = [] := ⟨_, rfl⟩
  have hS : va_S A s.heap H locs := by rw [hH, hlc]; exact hS0
  have hP : va_P (dC, dI) vwCl [(ad 0, .inr (10, oM ad m_undoCount m_thrown m_hasSnapshot a_m_fam m_rows m_lineLength m_formattedLength m_bufferLength m_limit m_next m_beginsAt m_token m_error m_errorAt m_errorPosition m_nested m_codeCount)), (a_m_fam, .inl (cJ, 130, .inr (.inl m_fam))), ((ad 9), .inl (cI, 16, .inl m_generation)), ((ad 19), .inl (cJ, 256, .inr (.inl m_kinships)))] H := by rw [hH]; exact hP
  suffices hgo : W p l e ({ frames := fF + 1, cells := 0, slots := 0, locals := lF + 30 }) s m ([.ref (ad 0), .int v1, .int v2] : List Value).toArray below meth c H locs 0 0 (MQ below (gQ dC dI (some (.long r9)) A [(ad 0, .inr (10, oM ad m_undoCount m_thrown m_hasSnapshot a_m_fam m_rows m_lineLength m_formattedLength m_bufferLength m_limit m_next m_beginsAt m_token m_error m_errorAt m_errorPosition m_nested m_codeCount)), (a_m_fam, .inl (cJ, 130, .inr (.inl m_fam))), ((ad 9), .inl (cI, 16, .inl m_generation)), ((ad 19), .inl (cJ, 256, .inr (.inl m_kinships_9)))]) ([.ref (ad 0), .int v1, .int v2] : List Value).toArray s 0 0 A) (F0 m 0 ls []) by rw [hH, hlc] at hgo; exact hgo
  rw [p10_kinshipOf_O] at hf
  have J156 : ∀ (v3_156 : Int32) (m_kinships_156 : Nat → Int64) (H : Heap) (locs : List Loc) (ls : Array Slot), p10_kinshipOf_J156 v3_156 m_kinships_156 = some (r9, m_kinships_9) → va_P (dC, dI) vwCl [(ad 0, .inr (10, oM ad m_undoCount m_thrown m_hasSnapshot a_m_fam m_rows m_lineLength m_formattedLength m_bufferLength m_limit m_next m_beginsAt m_token m_error m_errorAt m_errorPosition m_nested m_codeCount)), (a_m_fam, .inl (cJ, 130, .inr (.inl m_fam))), ((ad 9), .inl (cI, 16, .inl m_generation)), ((ad 19), .inl (cJ, 256, .inr (.inl m_kinships_156)))] H → va_D A [(ad 0, .inr (10, oM ad m_undoCount m_thrown m_hasSnapshot a_m_fam m_rows m_lineLength m_formattedLength m_bufferLength m_limit m_next m_beginsAt m_token m_error m_errorAt m_errorPosition m_nested m_codeCount)), (a_m_fam, .inl (cJ, 130, .inr (.inl m_fam))), ((ad 9), .inl (cI, 16, .inl m_generation)), ((ad 19), .inl (cJ, 256, .inr (.inl m_kinships_156)))] → va_S A s.heap H locs → lv_has ls 11 [(0, .ref (ad 0)), (3, .int v3_156)] → W p l e ({ frames := fF + 1, cells := 0, slots := 0, locals := lF + 30 }) s m ([.ref (ad 0), .int v1, .int v2] : List Value).toArray below meth c H locs 0 0 (MQ below (gQ dC dI (some (.long r9)) A [(ad 0, .inr (10, oM ad m_undoCount m_thrown m_hasSnapshot a_m_fam m_rows m_lineLength m_formattedLength m_bufferLength m_limit m_next m_beginsAt m_token m_error m_errorAt m_errorPosition m_nested m_codeCount)), (a_m_fam, .inl (cJ, 130, .inr (.inl m_fam))), ((ad 9), .inl (cI, 16, .inl m_generation)), ((ad 19), .inl (cJ, 256, .inr (.inl m_kinships_9)))]) ([.ref (ad 0), .int v1, .int v2] : List Value).toArray s 0 0 A) (F0 m 156 ls []) := by
    intro v3_156 m_kinships_156 H locs ls hf hP hD hS hl
    rw [p10_kinshipOf_J156] at hf
    refine lv_aload_n hx hb dX10_kinshipOf_156 rfl (lv_at hl 0 rfl) ?_
    refine va_get (D := (dC, dI)) (ci := 10) (v := .ref (ad 19)) (C := RX10) (T := TX10) (N := 37) hx hb htg inX10 hown hE.1 hP 0 rfl rfl 18 (by decide) (htg _ tw1400) (fun _ h9 => h9) rfl dX10_kinshipOf_157 ?_
    refine lv_iload_n hx hb dX10_kinshipOf_160 rfl (lv_at hl 1 rfl) ?_
    obtain ⟨h9, hf⟩ := gd_s hf
    refine va_lald hx hb hE.1 hP 3 1 rfl rfl h9 dX10_kinshipOf_161 ?_
    cases hf
    exact g_lret S hr hlocks hP hD hS dX10_kinshipOf_162
  have J134 : ∀ (v3_134 : Int32) (v7_134 : Int64) (m_kinships_134 : Nat → Int64) (H : Heap) (locs : List Loc) (ls : Array Slot), p10_kinshipOf_J134 v1 v2 v3_134 v7_134 m_kinships_134 = some (r9, m_kinships_9) → va_P (dC, dI) vwCl [(ad 0, .inr (10, oM ad m_undoCount m_thrown m_hasSnapshot a_m_fam m_rows m_lineLength m_formattedLength m_bufferLength m_limit m_next m_beginsAt m_token m_error m_errorAt m_errorPosition m_nested m_codeCount)), (a_m_fam, .inl (cJ, 130, .inr (.inl m_fam))), ((ad 9), .inl (cI, 16, .inl m_generation)), ((ad 19), .inl (cJ, 256, .inr (.inl m_kinships_134)))] H → va_D A [(ad 0, .inr (10, oM ad m_undoCount m_thrown m_hasSnapshot a_m_fam m_rows m_lineLength m_formattedLength m_bufferLength m_limit m_next m_beginsAt m_token m_error m_errorAt m_errorPosition m_nested m_codeCount)), (a_m_fam, .inl (cJ, 130, .inr (.inl m_fam))), ((ad 9), .inl (cI, 16, .inl m_generation)), ((ad 19), .inl (cJ, 256, .inr (.inl m_kinships_134)))] → va_S A s.heap H locs → lv_has ls 11 [(0, .ref (ad 0)), (1, .int v1), (2, .int v2), (3, .int v3_134), (7, .long v7_134)] → W p l e ({ frames := fF + 1, cells := 0, slots := 0, locals := lF + 30 }) s m ([.ref (ad 0), .int v1, .int v2] : List Value).toArray below meth c H locs 0 0 (MQ below (gQ dC dI (some (.long r9)) A [(ad 0, .inr (10, oM ad m_undoCount m_thrown m_hasSnapshot a_m_fam m_rows m_lineLength m_formattedLength m_bufferLength m_limit m_next m_beginsAt m_token m_error m_errorAt m_errorPosition m_nested m_codeCount)), (a_m_fam, .inl (cJ, 130, .inr (.inl m_fam))), ((ad 9), .inl (cI, 16, .inl m_generation)), ((ad 19), .inl (cJ, 256, .inr (.inl m_kinships_9)))]) ([.ref (ad 0), .int v1, .int v2] : List Value).toArray s 0 0 A) (F0 m 134 ls []) := by
    intro v3_134 v7_134 m_kinships_134 H locs ls hf hP hD hS hl
    rw [p10_kinshipOf_J134] at hf
    refine lv_aload_n hx hb dX10_kinshipOf_134 rfl (lv_at hl 0 rfl) ?_
    refine va_get (D := (dC, dI)) (ci := 10) (v := .ref (ad 19)) (C := RX10) (T := TX10) (N := 37) hx hb htg inX10 hown hE.1 hP 0 rfl rfl 18 (by decide) (htg _ tw1400) (fun _ h9 => h9) rfl dX10_kinshipOf_135 ?_
    refine lv_iload_n hx hb dX10_kinshipOf_138 rfl (lv_at hl 3 rfl) ?_
    refine lv_iload_n hx hb dX10_kinshipOf_139 rfl (lv_at hl 1 rfl) ?_
    refine lv_iload_n hx hb dX10_kinshipOf_140 rfl (lv_at hl 2 rfl) ?_
    refine lv_icmp_ne (tgt := 153) hx hb dX10_kinshipOf_141 (by decide) (fun h9 => ?_) (fun h9 => ?_)
    · have hf := itf h9 hf
      refine lv_lload hx hb dX10_kinshipOf_153 (lv_at hl 4 rfl) ?_
      obtain ⟨h9, hf⟩ := gd_s hf
      refine va_last hx hb hE.1 hP hD hS 3 1 rfl rfl h9 dX10_kinshipOf_155 (fun H locs hP hD hS => ?_)
      obtain ⟨g155, h9⟩ : ∃ z, z = (vp_updL m_kinships_134 v3_134.toNatClampNeg v7_134) := ⟨_, rfl⟩
      have hf := lb_e h9 hf
      have hP : va_P (dC, dI) vwCl [(ad 0, .inr (10, oM ad m_undoCount m_thrown m_hasSnapshot a_m_fam m_rows m_lineLength m_formattedLength m_bufferLength m_limit m_next m_beginsAt m_token m_error m_errorAt m_errorPosition m_nested m_codeCount)), (a_m_fam, .inl (cJ, 130, .inr (.inl m_fam))), ((ad 9), .inl (cI, 16, .inl m_generation)), ((ad 19), .inl (cJ, 256, .inr (.inl g155)))] H := by rw [h9]; exact hP
      have hD : va_D A [(ad 0, .inr (10, oM ad m_undoCount m_thrown m_hasSnapshot a_m_fam m_rows m_lineLength m_formattedLength m_bufferLength m_limit m_next m_beginsAt m_token m_error m_errorAt m_errorPosition m_nested m_codeCount)), (a_m_fam, .inl (cJ, 130, .inr (.inl m_fam))), ((ad 9), .inl (cI, 16, .inl m_generation)), ((ad 19), .inl (cJ, 256, .inr (.inl g155)))] := by rw [h9]; exact hD
      exact J156 v3_134 g155 H locs ls hf hP hD hS (lv_sub hl [0, 3] rfl)
    · have hf := itt h9 hf
      refine lv_ldc2 (own := RX10) (v := 549755813888) hx hb hown (htg _ tw1682) dX10_kinshipOf_144 ?_
      refine lv_lload hx hb dX10_kinshipOf_147 (lv_at hl 4 rfl) ?_
      refine lv_ladd hx hb dX10_kinshipOf_149 ?_
      refine lv_goto (tgt := 155) hx hb dX10_kinshipOf_150 (by decide) ?_
      obtain ⟨h9, hf⟩ := gd_s hf
      refine va_last hx hb hE.1 hP hD hS 3 1 rfl rfl h9 dX10_kinshipOf_155 (fun H locs hP hD hS => ?_)
      obtain ⟨g155, h9⟩ : ∃ z, z = (vp_updL m_kinships_134 v3_134.toNatClampNeg ((549755813888 : Int64) + v7_134)) := ⟨_, rfl⟩
      have hf := lb_e h9 hf
      have hP : va_P (dC, dI) vwCl [(ad 0, .inr (10, oM ad m_undoCount m_thrown m_hasSnapshot a_m_fam m_rows m_lineLength m_formattedLength m_bufferLength m_limit m_next m_beginsAt m_token m_error m_errorAt m_errorPosition m_nested m_codeCount)), (a_m_fam, .inl (cJ, 130, .inr (.inl m_fam))), ((ad 9), .inl (cI, 16, .inl m_generation)), ((ad 19), .inl (cJ, 256, .inr (.inl g155)))] H := by rw [h9]; exact hP
      have hD : va_D A [(ad 0, .inr (10, oM ad m_undoCount m_thrown m_hasSnapshot a_m_fam m_rows m_lineLength m_formattedLength m_bufferLength m_limit m_next m_beginsAt m_token m_error m_errorAt m_errorPosition m_nested m_codeCount)), (a_m_fam, .inl (cJ, 130, .inr (.inl m_fam))), ((ad 9), .inl (cI, 16, .inl m_generation)), ((ad 19), .inl (cJ, 256, .inr (.inl g155)))] := by rw [h9]; exact hD
      exact J156 v3_134 g155 H locs ls hf hP hD hS (lv_sub hl [0, 3] rfl)
  have J56 : ∀ (v3_56 : Int32) (v4_56 : Int32) (v5_56 : Int32) (H : Heap) (locs : List Loc) (ls : Array Slot), p10_kinshipOf_J56 kF m_fam m_generation m_kinships v1 v2 v3_56 v4_56 v5_56 = some (r9, m_kinships_9) → va_P (dC, dI) vwCl [(ad 0, .inr (10, oM ad m_undoCount m_thrown m_hasSnapshot a_m_fam m_rows m_lineLength m_formattedLength m_bufferLength m_limit m_next m_beginsAt m_token m_error m_errorAt m_errorPosition m_nested m_codeCount)), (a_m_fam, .inl (cJ, 130, .inr (.inl m_fam))), ((ad 9), .inl (cI, 16, .inl m_generation)), ((ad 19), .inl (cJ, 256, .inr (.inl m_kinships)))] H → va_D A [(ad 0, .inr (10, oM ad m_undoCount m_thrown m_hasSnapshot a_m_fam m_rows m_lineLength m_formattedLength m_bufferLength m_limit m_next m_beginsAt m_token m_error m_errorAt m_errorPosition m_nested m_codeCount)), (a_m_fam, .inl (cJ, 130, .inr (.inl m_fam))), ((ad 9), .inl (cI, 16, .inl m_generation)), ((ad 19), .inl (cJ, 256, .inr (.inl m_kinships)))] → va_S A s.heap H locs → lv_has ls 11 [(0, .ref (ad 0)), (1, .int v1), (2, .int v2), (3, .int v3_56), (4, .int v4_56), (5, .int v5_56)] → W p l e ({ frames := fF + 1, cells := 0, slots := 0, locals := lF + 30 }) s m ([.ref (ad 0), .int v1, .int v2] : List Value).toArray below meth c H locs 0 0 (MQ below (gQ dC dI (some (.long r9)) A [(ad 0, .inr (10, oM ad m_undoCount m_thrown m_hasSnapshot a_m_fam m_rows m_lineLength m_formattedLength m_bufferLength m_limit m_next m_beginsAt m_token m_error m_errorAt m_errorPosition m_nested m_codeCount)), (a_m_fam, .inl (cJ, 130, .inr (.inl m_fam))), ((ad 9), .inl (cI, 16, .inl m_generation)), ((ad 19), .inl (cJ, 256, .inr (.inl m_kinships_9)))]) ([.ref (ad 0), .int v1, .int v2] : List Value).toArray s 0 0 A) (F0 m 56 ls []) := by
    intro v3_56 v4_56 v5_56 H locs ls hf hP hD hS hl
    rw [p10_kinshipOf_J56] at hf
    refine lv_aload_n hx hb dX10_kinshipOf_56 rfl (lv_at hl 0 rfl) ?_
    refine lv_iload hx hb dX10_kinshipOf_57 (lv_at hl 4 rfl) ?_
    obtain ⟨r59, h9, hf⟩ := ob_s hf
    refine gcV (index := 117) S hE (c_X10_parentsOf ad a_m_fam m_undoCount m_thrown m_hasSnapshot m_rows m_lineLength m_formattedLength m_bufferLength m_limit m_next m_beginsAt m_token m_error m_errorAt m_errorPosition m_nested m_codeCount m_fam v4_56 r59 h9) mX10_parentsOf tw1515 ⟨(show 1 + 1 ≤ fF + 1 by omega), (show 8 + (2 + 11) + (22) ≤ lF + 30 by omega)⟩ hP hD hS hA ⟨Nat.zero_le _, Nat.zero_le _⟩ 0 10 rfl rfl rfl (wr := [((ad 9), .inl (cI, 16, .inl m_generation)), ((ad 19), .inl (cJ, 256, .inr (.inl m_kinships)))]) [0, 1] [2, 3] rfl rfl rfl rfl (by decide) (As := [.int v4_56]) (rest := []) rfl hl.1 rfl (Nat.le_of_ble_eq_true rfl) dX10_kinshipOf_59 (fun H locs hP hD hS => ?_)
    refine W.eq (g2 := F0 m 62 ls [.int r59]) rfl ?_
    have hP : va_P (dC, dI) vwCl [((ad 9), .inl (cI, 16, .inl m_generation)), ((ad 19), .inl (cJ, 256, .inr (.inl m_kinships))), (ad 0, .inr (10, oM ad m_undoCount m_thrown m_hasSnapshot a_m_fam m_rows m_lineLength m_formattedLength m_bufferLength m_limit m_next m_beginsAt m_token m_error m_errorAt m_errorPosition m_nested m_codeCount)), (a_m_fam, .inl (cJ, 130, .inr (.inl m_fam)))] H := hP
    have hD : va_D A [((ad 9), .inl (cI, 16, .inl m_generation)), ((ad 19), .inl (cJ, 256, .inr (.inl m_kinships))), (ad 0, .inr (10, oM ad m_undoCount m_thrown m_hasSnapshot a_m_fam m_rows m_lineLength m_formattedLength m_bufferLength m_limit m_next m_beginsAt m_token m_error m_errorAt m_errorPosition m_nested m_codeCount)), (a_m_fam, .inl (cJ, 130, .inr (.inl m_fam)))] := hD
    refine lv_istore (lv' := [(6, .int r59), (0, .ref (ad 0)), (1, .int v1), (2, .int v2), (3, .int v3_56), (4, .int v4_56), (5, .int v5_56)]) hx hb dX10_kinshipOf_62 hl (by decide) rfl (fun ls hl => ?_)
    refine lv_lconst (v := 0) hx hb dX10_kinshipOf_64 (by decide) ?_
    refine lv_lstore (lv' := [(7, .long (0 : Int64)), (6, .int r59), (0, .ref (ad 0)), (1, .int v1), (2, .int v2), (3, .int v3_56), (4, .int v4_56), (5, .int v5_56)]) hx hb dX10_kinshipOf_65 hl (by decide) rfl (fun ls hl => ?_)
    refine lv_iload hx hb dX10_kinshipOf_67 (lv_at hl 1 rfl) ?_
    refine lv_iconst (v := -1) hx hb dX10_kinshipOf_69 (by decide) ?_
    refine lv_icmp_eq (tgt := 134) hx hb dX10_kinshipOf_70 (by decide) (fun h9 => ?_) (fun h9 => ?_)
    · have hf := itt h9 hf
      exact J134 v3_56 (0 : Int64) m_kinships H locs ls hf (hP.sub [2, 3, 0, 1] rfl) (hD.sub [2, 3, 0, 1] (by decide) rfl) hS (lv_sub hl [2, 3, 4, 5, 0] rfl)
    · have hf := itf h9 hf
      refine lv_aload_n hx hb dX10_kinshipOf_73 rfl (lv_at hl 2 rfl) ?_
      refine lv_iload hx hb dX10_kinshipOf_74 (lv_at hl 1 rfl) ?_
      refine lv_iconst (v := 0) hx hb dX10_kinshipOf_76 (by decide) ?_
      obtain ⟨r77, h9, hf⟩ := ob_s hf
      refine gcV (index := 102) S hE (c_X10_partner ad a_m_fam m_undoCount m_thrown m_hasSnapshot m_rows m_lineLength m_formattedLength m_bufferLength m_limit m_next m_beginsAt m_token m_error m_errorAt m_errorPosition m_nested m_codeCount m_fam r59 (0 : Int32) r77 h9) mX10_partner tw1527 ⟨(show 0 + 1 ≤ fF + 1 by omega), (show 8 + (3 + 11) + (0) ≤ lF + 30 by omega)⟩ hP hD hS hA ⟨Nat.zero_le _, Nat.zero_le _⟩ 2 10 rfl rfl rfl (wr := [((ad 9), .inl (cI, 16, .inl m_generation)), ((ad 19), .inl (cJ, 256, .inr (.inl m_kinships)))]) [2, 3] [0, 1] rfl rfl rfl rfl (by decide) (As := [.int r59, .int (0 : Int32)]) (rest := []) rfl hl.1 rfl (Nat.le_of_ble_eq_true rfl) dX10_kinshipOf_77 (fun H locs hP hD hS => ?_)
      refine W.eq (g2 := F0 m 80 ls [.int r77]) rfl ?_
      have hP : va_P (dC, dI) vwCl [((ad 9), .inl (cI, 16, .inl m_generation)), ((ad 19), .inl (cJ, 256, .inr (.inl m_kinships))), (ad 0, .inr (10, oM ad m_undoCount m_thrown m_hasSnapshot a_m_fam m_rows m_lineLength m_formattedLength m_bufferLength m_limit m_next m_beginsAt m_token m_error m_errorAt m_errorPosition m_nested m_codeCount)), (a_m_fam, .inl (cJ, 130, .inr (.inl m_fam)))] H := hP
      have hD : va_D A [((ad 9), .inl (cI, 16, .inl m_generation)), ((ad 19), .inl (cJ, 256, .inr (.inl m_kinships))), (ad 0, .inr (10, oM ad m_undoCount m_thrown m_hasSnapshot a_m_fam m_rows m_lineLength m_formattedLength m_bufferLength m_limit m_next m_beginsAt m_token m_error m_errorAt m_errorPosition m_nested m_codeCount)), (a_m_fam, .inl (cJ, 130, .inr (.inl m_fam)))] := hD
      refine lv_istore (lv' := [(9, .int r77), (7, .long (0 : Int64)), (6, .int r59), (0, .ref (ad 0)), (1, .int v1), (2, .int v2), (3, .int v3_56), (4, .int v4_56), (5, .int v5_56)]) hx hb dX10_kinshipOf_80 hl (by decide) rfl (fun ls hl => ?_)
      refine lv_aload_n hx hb dX10_kinshipOf_82 rfl (lv_at hl 3 rfl) ?_
      refine lv_iload hx hb dX10_kinshipOf_83 (lv_at hl 2 rfl) ?_
      refine lv_iconst (v := 1) hx hb dX10_kinshipOf_85 (by decide) ?_
      obtain ⟨r86, h9, hf⟩ := ob_s hf
      refine gcV (index := 102) S hE (c_X10_partner ad a_m_fam m_undoCount m_thrown m_hasSnapshot m_rows m_lineLength m_formattedLength m_bufferLength m_limit m_next m_beginsAt m_token m_error m_errorAt m_errorPosition m_nested m_codeCount m_fam r59 (1 : Int32) r86 h9) mX10_partner tw1527 ⟨(show 0 + 1 ≤ fF + 1 by omega), (show 8 + (3 + 11) + (0) ≤ lF + 30 by omega)⟩ hP hD hS hA ⟨Nat.zero_le _, Nat.zero_le _⟩ 2 10 rfl rfl rfl (wr := [((ad 9), .inl (cI, 16, .inl m_generation)), ((ad 19), .inl (cJ, 256, .inr (.inl m_kinships)))]) [2, 3] [0, 1] rfl rfl rfl rfl (by decide) (As := [.int r59, .int (1 : Int32)]) (rest := []) rfl hl.1 rfl (Nat.le_of_ble_eq_true rfl) dX10_kinshipOf_86 (fun H locs hP hD hS => ?_)
      refine W.eq (g2 := F0 m 89 ls [.int r86]) rfl ?_
      have hP : va_P (dC, dI) vwCl [((ad 9), .inl (cI, 16, .inl m_generation)), ((ad 19), .inl (cJ, 256, .inr (.inl m_kinships))), (ad 0, .inr (10, oM ad m_undoCount m_thrown m_hasSnapshot a_m_fam m_rows m_lineLength m_formattedLength m_bufferLength m_limit m_next m_beginsAt m_token m_error m_errorAt m_errorPosition m_nested m_codeCount)), (a_m_fam, .inl (cJ, 130, .inr (.inl m_fam)))] H := hP
      have hD : va_D A [((ad 9), .inl (cI, 16, .inl m_generation)), ((ad 19), .inl (cJ, 256, .inr (.inl m_kinships))), (ad 0, .inr (10, oM ad m_undoCount m_thrown m_hasSnapshot a_m_fam m_rows m_lineLength m_formattedLength m_bufferLength m_limit m_next m_beginsAt m_token m_error m_errorAt m_errorPosition m_nested m_codeCount)), (a_m_fam, .inl (cJ, 130, .inr (.inl m_fam)))] := hD
      refine lv_istore (lv' := [(10, .int r86), (9, .int r77), (7, .long (0 : Int64)), (6, .int r59), (0, .ref (ad 0)), (1, .int v1), (2, .int v2), (3, .int v3_56), (4, .int v4_56), (5, .int v5_56)]) hx hb dX10_kinshipOf_89 hl (by decide) rfl (fun ls hl => ?_)
      refine lv_iload_n hx hb dX10_kinshipOf_91 rfl (lv_at hl 5 rfl) ?_
      refine lv_iload_n hx hb dX10_kinshipOf_92 rfl (lv_at hl 6 rfl) ?_
      refine lv_icmp_ne (tgt := 111) hx hb dX10_kinshipOf_93 (by decide) (fun h9 => ?_) (fun h9 => ?_)
      · have hf := itf h9 hf
        refine lv_aload_n hx hb dX10_kinshipOf_111 rfl (lv_at hl 4 rfl) ?_
        refine lv_iload hx hb dX10_kinshipOf_112 (lv_at hl 9 rfl) ?_
        refine lv_iload hx hb dX10_kinshipOf_114 (lv_at hl 1 rfl) ?_
        obtain ⟨⟨r116, m_kinships_116⟩, h9, hf⟩ := ob_s hf
        have hf := uc2_e hf
        refine gcV (index := 265) S hE (hF ad a_m_fam m_undoCount m_thrown m_hasSnapshot m_rows m_lineLength m_formattedLength m_bufferLength m_limit m_next m_beginsAt m_token m_error m_errorAt m_errorPosition m_nested m_codeCount m_fam m_generation m_kinships v5_56 r77 r116 m_kinships_116 h9) mX10_kinshipOf tw1673 ⟨(show fF + 1 ≤ fF + 1 by omega), (show 8 + (11 + 11) + (lF) ≤ lF + 30 by omega)⟩ hP hD hS hA ⟨Nat.zero_le _, Nat.zero_le _⟩ 2 10 rfl rfl rfl (wr := []) [2, 3, 0, 1] [] rfl rfl rfl rfl (by decide) (As := [.int v5_56, .int r77]) (rest := []) rfl hl.1 rfl (Nat.le_of_ble_eq_true rfl) dX10_kinshipOf_116 (fun H locs hP hD hS => ?_)
        refine W.eq (g2 := F0 m 119 ls [.long r116]) rfl ?_
        have hP : va_P (dC, dI) vwCl [(ad 0, .inr (10, oM ad m_undoCount m_thrown m_hasSnapshot a_m_fam m_rows m_lineLength m_formattedLength m_bufferLength m_limit m_next m_beginsAt m_token m_error m_errorAt m_errorPosition m_nested m_codeCount)), (a_m_fam, .inl (cJ, 130, .inr (.inl m_fam))), ((ad 9), .inl (cI, 16, .inl m_generation)), ((ad 19), .inl (cJ, 256, .inr (.inl m_kinships_116)))] H := hP
        have hD : va_D A [(ad 0, .inr (10, oM ad m_undoCount m_thrown m_hasSnapshot a_m_fam m_rows m_lineLength m_formattedLength m_bufferLength m_limit m_next m_beginsAt m_token m_error m_errorAt m_errorPosition m_nested m_codeCount)), (a_m_fam, .inl (cJ, 130, .inr (.inl m_fam))), ((ad 9), .inl (cI, 16, .inl m_generation)), ((ad 19), .inl (cJ, 256, .inr (.inl m_kinships_116)))] := hD
        refine lv_aload_n hx hb dX10_kinshipOf_119 rfl (lv_at hl 4 rfl) ?_
        refine lv_iload hx hb dX10_kinshipOf_120 (lv_at hl 9 rfl) ?_
        refine lv_iload hx hb dX10_kinshipOf_122 (lv_at hl 0 rfl) ?_
        obtain ⟨⟨r124, m_kinships_124⟩, h9, hf⟩ := ob_s hf
        have hf := uc2_e hf
        refine gcV (index := 265) S hE (hF ad a_m_fam m_undoCount m_thrown m_hasSnapshot m_rows m_lineLength m_formattedLength m_bufferLength m_limit m_next m_beginsAt m_token m_error m_errorAt m_errorPosition m_nested m_codeCount m_fam m_generation m_kinships_116 v5_56 r86 r124 m_kinships_124 h9) mX10_kinshipOf tw1673 ⟨(show fF + 1 ≤ fF + 1 by omega), (show 8 + (11 + 11) + (lF) ≤ lF + 30 by omega)⟩ hP hD hS hA ⟨Nat.zero_le _, Nat.zero_le _⟩ 0 10 rfl rfl rfl (wr := []) [0, 1, 2, 3] [] rfl rfl rfl rfl (by decide) (As := [.int v5_56, .int r86]) (rest := [.long r116]) rfl hl.1 rfl (Nat.le_of_ble_eq_true rfl) dX10_kinshipOf_124 (fun H locs hP hD hS => ?_)
        refine W.eq (g2 := F0 m 127 ls [.long r124, .long r116]) rfl ?_
        have hP : va_P (dC, dI) vwCl [(ad 0, .inr (10, oM ad m_undoCount m_thrown m_hasSnapshot a_m_fam m_rows m_lineLength m_formattedLength m_bufferLength m_limit m_next m_beginsAt m_token m_error m_errorAt m_errorPosition m_nested m_codeCount)), (a_m_fam, .inl (cJ, 130, .inr (.inl m_fam))), ((ad 9), .inl (cI, 16, .inl m_generation)), ((ad 19), .inl (cJ, 256, .inr (.inl m_kinships_124)))] H := hP
        have hD : va_D A [(ad 0, .inr (10, oM ad m_undoCount m_thrown m_hasSnapshot a_m_fam m_rows m_lineLength m_formattedLength m_bufferLength m_limit m_next m_beginsAt m_token m_error m_errorAt m_errorPosition m_nested m_codeCount)), (a_m_fam, .inl (cJ, 130, .inr (.inl m_fam))), ((ad 9), .inl (cI, 16, .inl m_generation)), ((ad 19), .inl (cJ, 256, .inr (.inl m_kinships_124)))] := hD
        refine lv_ladd hx hb dX10_kinshipOf_127 ?_
        refine lv_ldc2 (own := RX10) (v := 2) hx hb hown (htg _ tw1681) dX10_kinshipOf_128 ?_
        refine lv_ldiv hx hb dX10_kinshipOf_131 (by decide) ?_
        refine lv_topl (fun t132 h9 => ?_)
        have hf := lb_e h9 hf
        refine lv_lstore (lv' := [(7, .long t132), (10, .int r86), (9, .int r77), (6, .int r59), (0, .ref (ad 0)), (1, .int v1), (2, .int v2), (3, .int v3_56), (4, .int v4_56), (5, .int v5_56)]) hx hb dX10_kinshipOf_132 hl (by decide) rfl (fun ls hl => ?_)
        exact J134 v3_56 t132 m_kinships_124 H locs ls hf hP hD hS (lv_sub hl [4, 5, 6, 7, 0] rfl)
      · have hf := itt h9 hf
        refine lv_aload_n hx hb dX10_kinshipOf_96 rfl (lv_at hl 4 rfl) ?_
        refine lv_iload hx hb dX10_kinshipOf_97 (lv_at hl 1 rfl) ?_
        refine lv_iload hx hb dX10_kinshipOf_99 (lv_at hl 0 rfl) ?_
        obtain ⟨⟨r101, m_kinships_101⟩, h9, hf⟩ := ob_s hf
        have hf := uc2_e hf
        refine gcV (index := 265) S hE (hF ad a_m_fam m_undoCount m_thrown m_hasSnapshot m_rows m_lineLength m_formattedLength m_bufferLength m_limit m_next m_beginsAt m_token m_error m_errorAt m_errorPosition m_nested m_codeCount m_fam m_generation m_kinships r77 r86 r101 m_kinships_101 h9) mX10_kinshipOf tw1673 ⟨(show fF + 1 ≤ fF + 1 by omega), (show 8 + (11 + 11) + (lF) ≤ lF + 30 by omega)⟩ hP hD hS hA ⟨Nat.zero_le _, Nat.zero_le _⟩ 2 10 rfl rfl rfl (wr := []) [2, 3, 0, 1] [] rfl rfl rfl rfl (by decide) (As := [.int r77, .int r86]) (rest := []) rfl hl.1 rfl (Nat.le_of_ble_eq_true rfl) dX10_kinshipOf_101 (fun H locs hP hD hS => ?_)
        refine W.eq (g2 := F0 m 104 ls [.long r101]) rfl ?_
        have hP : va_P (dC, dI) vwCl [(ad 0, .inr (10, oM ad m_undoCount m_thrown m_hasSnapshot a_m_fam m_rows m_lineLength m_formattedLength m_bufferLength m_limit m_next m_beginsAt m_token m_error m_errorAt m_errorPosition m_nested m_codeCount)), (a_m_fam, .inl (cJ, 130, .inr (.inl m_fam))), ((ad 9), .inl (cI, 16, .inl m_generation)), ((ad 19), .inl (cJ, 256, .inr (.inl m_kinships_101)))] H := hP
        have hD : va_D A [(ad 0, .inr (10, oM ad m_undoCount m_thrown m_hasSnapshot a_m_fam m_rows m_lineLength m_formattedLength m_bufferLength m_limit m_next m_beginsAt m_token m_error m_errorAt m_errorPosition m_nested m_codeCount)), (a_m_fam, .inl (cJ, 130, .inr (.inl m_fam))), ((ad 9), .inl (cI, 16, .inl m_generation)), ((ad 19), .inl (cJ, 256, .inr (.inl m_kinships_101)))] := hD
        refine lv_ldc2 (own := RX10) (v := 2) hx hb hown (htg _ tw1681) dX10_kinshipOf_104 ?_
        refine lv_ldiv hx hb dX10_kinshipOf_107 (by decide) ?_
        refine lv_goto (tgt := 132) hx hb dX10_kinshipOf_108 (by decide) ?_
        refine lv_topl (fun t132 h9 => ?_)
        have hf := lb_e h9 hf
        refine lv_lstore (lv' := [(7, .long t132), (10, .int r86), (9, .int r77), (6, .int r59), (0, .ref (ad 0)), (1, .int v1), (2, .int v2), (3, .int v3_56), (4, .int v4_56), (5, .int v5_56)]) hx hb dX10_kinshipOf_132 hl (by decide) rfl (fun ls hl => ?_)
        exact J134 v3_56 t132 m_kinships_101 H locs ls hf hP hD hS (lv_sub hl [4, 5, 6, 7, 0] rfl)
  have J43 : ∀ (v3_43 : Int32) (v4_43 : Int32) (H : Heap) (locs : List Loc) (ls : Array Slot), p10_kinshipOf_J43 kF m_fam m_generation m_kinships v1 v2 v3_43 v4_43 = some (r9, m_kinships_9) → va_P (dC, dI) vwCl [(ad 0, .inr (10, oM ad m_undoCount m_thrown m_hasSnapshot a_m_fam m_rows m_lineLength m_formattedLength m_bufferLength m_limit m_next m_beginsAt m_token m_error m_errorAt m_errorPosition m_nested m_codeCount)), (a_m_fam, .inl (cJ, 130, .inr (.inl m_fam))), ((ad 9), .inl (cI, 16, .inl m_generation)), ((ad 19), .inl (cJ, 256, .inr (.inl m_kinships)))] H → va_D A [(ad 0, .inr (10, oM ad m_undoCount m_thrown m_hasSnapshot a_m_fam m_rows m_lineLength m_formattedLength m_bufferLength m_limit m_next m_beginsAt m_token m_error m_errorAt m_errorPosition m_nested m_codeCount)), (a_m_fam, .inl (cJ, 130, .inr (.inl m_fam))), ((ad 9), .inl (cI, 16, .inl m_generation)), ((ad 19), .inl (cJ, 256, .inr (.inl m_kinships)))] → va_S A s.heap H locs → lv_has ls 11 [(0, .ref (ad 0)), (1, .int v1), (2, .int v2), (3, .int v3_43), (4, .int v4_43)] → W p l e ({ frames := fF + 1, cells := 0, slots := 0, locals := lF + 30 }) s m ([.ref (ad 0), .int v1, .int v2] : List Value).toArray below meth c H locs 0 0 (MQ below (gQ dC dI (some (.long r9)) A [(ad 0, .inr (10, oM ad m_undoCount m_thrown m_hasSnapshot a_m_fam m_rows m_lineLength m_formattedLength m_bufferLength m_limit m_next m_beginsAt m_token m_error m_errorAt m_errorPosition m_nested m_codeCount)), (a_m_fam, .inl (cJ, 130, .inr (.inl m_fam))), ((ad 9), .inl (cI, 16, .inl m_generation)), ((ad 19), .inl (cJ, 256, .inr (.inl m_kinships_9)))]) ([.ref (ad 0), .int v1, .int v2] : List Value).toArray s 0 0 A) (F0 m 43 ls []) := by
    intro v3_43 v4_43 H locs ls hf hP hD hS hl
    rw [p10_kinshipOf_J43] at hf
    refine lv_iload hx hb dX10_kinshipOf_43 (lv_at hl 4 rfl) ?_
    refine lv_iload_n hx hb dX10_kinshipOf_45 rfl (lv_at hl 1 rfl) ?_
    refine lv_icmp_ne (tgt := 53) hx hb dX10_kinshipOf_46 (by decide) (fun h9 => ?_) (fun h9 => ?_)
    · have hf := itf h9 hf
      refine lv_iload_n hx hb dX10_kinshipOf_53 rfl (lv_at hl 1 rfl) ?_
      refine lv_istore (lv' := [(5, .int v1), (0, .ref (ad 0)), (1, .int v1), (2, .int v2), (3, .int v3_43), (4, .int v4_43)]) hx hb dX10_kinshipOf_54 hl (by decide) rfl (fun ls hl => ?_)
      exact J56 v3_43 v4_43 v1 H locs ls hf hP hD hS (lv_sub hl [1, 2, 3, 4, 5, 0] rfl)
    · have hf := itt h9 hf
      refine lv_iload_n hx hb dX10_kinshipOf_49 rfl (lv_at hl 2 rfl) ?_
      refine lv_goto (tgt := 54) hx hb dX10_kinshipOf_50 (by decide) ?_
      refine lv_istore (lv' := [(5, .int v2), (0, .ref (ad 0)), (1, .int v1), (2, .int v2), (3, .int v3_43), (4, .int v4_43)]) hx hb dX10_kinshipOf_54 hl (by decide) rfl (fun ls hl => ?_)
      exact J56 v3_43 v4_43 v2 H locs ls hf hP hD hS (lv_sub hl [1, 2, 3, 4, 5, 0] rfl)
  refine lv_bipush (v := 16) hx hb dX10_kinshipOf_0 (by decide) ?_
  refine lv_iload_n hx hb dX10_kinshipOf_2 rfl (lv_at hl 1 rfl) ?_
  refine lv_imul hx hb dX10_kinshipOf_3 ?_
  refine lv_iload_n hx hb dX10_kinshipOf_4 rfl (lv_at hl 2 rfl) ?_
  refine lv_iadd hx hb dX10_kinshipOf_5 ?_
  refine lv_topi (fun t6 h9 => ?_)
  have hf := lb_e h9 hf
  refine lv_istore_n (lv' := [(3, .int t6), (0, .ref (ad 0)), (1, .int v1), (2, .int v2)]) hx hb dX10_kinshipOf_6 rfl hl (by decide) rfl (fun ls hl => ?_)
  refine lv_aload_n hx hb dX10_kinshipOf_7 rfl (lv_at hl 1 rfl) ?_
  refine va_get (D := (dC, dI)) (ci := 10) (v := .ref (ad 19)) (C := RX10) (T := TX10) (N := 37) hx hb htg inX10 hown hE.1 hP 0 rfl rfl 18 (by decide) (htg _ tw1400) (fun _ h9 => h9) rfl dX10_kinshipOf_8 ?_
  refine lv_iload_n hx hb dX10_kinshipOf_11 rfl (lv_at hl 0 rfl) ?_
  obtain ⟨h9, hf⟩ := gd_s hf
  refine va_lald hx hb hE.1 hP 3 1 rfl rfl h9 dX10_kinshipOf_12 ?_
  refine lv_ldc2 (own := RX10) (v := -1) hx hb hown (htg _ tw1672) dX10_kinshipOf_13 ?_
  refine W.lcmp hx hb dX10_kinshipOf_16 ?_
  refine lv_if_eq (tgt := 27) hx hb dX10_kinshipOf_17 (by decide) (fun h9 => ?_) (fun h9 => ?_)
  · have h9 := (lg_cmp_eq _ _).mp h9
    have hf := itt h9 hf
    refine lv_aload_n hx hb dX10_kinshipOf_27 rfl (lv_at hl 1 rfl) ?_
    refine lv_iload_n hx hb dX10_kinshipOf_28 rfl (lv_at hl 2 rfl) ?_
    refine lv_iload_n hx hb dX10_kinshipOf_29 rfl (lv_at hl 3 rfl) ?_
    obtain ⟨r30, h9, hf⟩ := ob_s hf
    refine gcV (index := 262) S hE (c_X10_isLater ad a_m_fam m_undoCount m_thrown m_hasSnapshot m_rows m_lineLength m_formattedLength m_bufferLength m_limit m_next m_beginsAt m_token m_error m_errorAt m_errorPosition m_nested m_codeCount m_generation v1 v2 r30 h9) mX10_isLater tw1677 ⟨(show 0 + 1 ≤ fF + 1 by omega), (show 8 + (3 + 11) + (0) ≤ lF + 30 by omega)⟩ hP hD hS hA ⟨Nat.zero_le _, Nat.zero_le _⟩ 0 10 rfl rfl rfl (wr := [(a_m_fam, .inl (cJ, 130, .inr (.inl m_fam))), ((ad 19), .inl (cJ, 256, .inr (.inl m_kinships)))]) [0, 2] [1, 3] rfl rfl rfl rfl (by decide) (As := [.int v1, .int v2]) (rest := []) rfl hl.1 rfl (Nat.le_of_ble_eq_true rfl) dX10_kinshipOf_30 (fun H locs hP hD hS => ?_)
    refine W.eq (g2 := F0 m 33 ls [.int (bI r30)]) rfl ?_
    have hP : va_P (dC, dI) vwCl [(a_m_fam, .inl (cJ, 130, .inr (.inl m_fam))), ((ad 19), .inl (cJ, 256, .inr (.inl m_kinships))), (ad 0, .inr (10, oM ad m_undoCount m_thrown m_hasSnapshot a_m_fam m_rows m_lineLength m_formattedLength m_bufferLength m_limit m_next m_beginsAt m_token m_error m_errorAt m_errorPosition m_nested m_codeCount)), ((ad 9), .inl (cI, 16, .inl m_generation))] H := hP
    have hD : va_D A [(a_m_fam, .inl (cJ, 130, .inr (.inl m_fam))), ((ad 19), .inl (cJ, 256, .inr (.inl m_kinships))), (ad 0, .inr (10, oM ad m_undoCount m_thrown m_hasSnapshot a_m_fam m_rows m_lineLength m_formattedLength m_bufferLength m_limit m_next m_beginsAt m_token m_error m_errorAt m_errorPosition m_nested m_codeCount)), ((ad 9), .inl (cI, 16, .inl m_generation))] := hD
    refine lv_if_eq (tgt := 40) hx hb dX10_kinshipOf_33 (by decide) (fun h9 => ?_) (fun h9 => ?_)
    · have hf := ctf (bI_0 h9) hf
      refine lv_iload_n hx hb dX10_kinshipOf_40 rfl (lv_at hl 3 rfl) ?_
      refine lv_istore (lv' := [(4, .int v2), (3, .int t6), (0, .ref (ad 0)), (1, .int v1), (2, .int v2)]) hx hb dX10_kinshipOf_41 hl (by decide) rfl (fun ls hl => ?_)
      exact J43 t6 v2 H locs ls hf (hP.sub [2, 0, 3, 1] rfl) (hD.sub [2, 0, 3, 1] (by decide) rfl) hS (lv_sub hl [2, 3, 4, 1, 0] rfl)
    · have hf := ctt (bI_1 h9) hf
      refine lv_iload_n hx hb dX10_kinshipOf_36 rfl (lv_at hl 2 rfl) ?_
      refine lv_goto (tgt := 41) hx hb dX10_kinshipOf_37 (by decide) ?_
      refine lv_istore (lv' := [(4, .int v1), (3, .int t6), (0, .ref (ad 0)), (1, .int v1), (2, .int v2)]) hx hb dX10_kinshipOf_41 hl (by decide) rfl (fun ls hl => ?_)
      exact J43 t6 v1 H locs ls hf (hP.sub [2, 0, 3, 1] rfl) (hD.sub [2, 0, 3, 1] (by decide) rfl) hS (lv_sub hl [2, 3, 4, 1, 0] rfl)
  · have h9 := fun q => h9 ((lg_cmp_eq _ _).mpr q)
    have hf := itf h9 hf
    refine lv_aload_n hx hb dX10_kinshipOf_20 rfl (lv_at hl 1 rfl) ?_
    refine va_get (D := (dC, dI)) (ci := 10) (v := .ref (ad 19)) (C := RX10) (T := TX10) (N := 37) hx hb htg inX10 hown hE.1 hP 0 rfl rfl 18 (by decide) (htg _ tw1400) (fun _ h9 => h9) rfl dX10_kinshipOf_21 ?_
    refine lv_iload_n hx hb dX10_kinshipOf_24 rfl (lv_at hl 0 rfl) ?_
    obtain ⟨h9, hf⟩ := gd_s hf
    refine va_lald hx hb hE.1 hP 3 1 rfl rfl h9 dX10_kinshipOf_25 ?_
    cases hf
    exact g_lret S hr hlocks hP hD hS dX10_kinshipOf_26
def p10_kinshipOf : Nat → (Nat → Int64) → (Nat → Int32) → (Nat → Int64) → Int32 → Int32 → Option (Int64 × (Nat → Int64))
  | 0, _, _, _, _, _ => none
  | d+1, z0, z1, z2, z3, z4 => p10_kinshipOf_O (p10_kinshipOf d) z0 z1 z2 z3 z4
theorem c_X10_kinshipOf_d : ∀ (d : Nat) (ad : Nat → Nat) (a_m_fam : Nat) (m_undoCount : Int32) (m_thrown : Int32) (m_hasSnapshot : Bool) (m_rows : Int32) (m_lineLength : Int32) (m_formattedLength : Int32) (m_bufferLength : Int32) (m_limit : Int32) (m_next : Int32) (m_beginsAt : Int32) (m_token : Int32) (m_error : Int32) (m_errorAt : Int32) (m_errorPosition : Int32) (m_nested : Int32) (m_codeCount : Int32) (m_fam : Nat → Int64) (m_generation : Nat → Int32) (m_kinships : Nat → Int64) (v1 : Int32) (v2 : Int32) (r9 : Int64) (m_kinships_9 : Nat → Int64) (hf : p10_kinshipOf d m_fam m_generation m_kinships v1 v2 = some (r9, m_kinships_9)), gM l dC dI cI cJ cZ yX10_kinshipOf cX10_kinshipOf 11 (some .long) (60 + 1 * d) (3000 + 30 * d) [.ref (ad 0), .int v1, .int v2] [(ad 0, .inr (10, oM ad m_undoCount m_thrown m_hasSnapshot a_m_fam m_rows m_lineLength m_formattedLength m_bufferLength m_limit m_next m_beginsAt m_token m_error m_errorAt m_errorPosition m_nested m_codeCount)), (a_m_fam, .inl (cJ, 130, .inr (.inl m_fam))), ((ad 9), .inl (cI, 16, .inl m_generation)), ((ad 19), .inl (cJ, 256, .inr (.inl m_kinships)))] [(ad 0, .inr (10, oM ad m_undoCount m_thrown m_hasSnapshot a_m_fam m_rows m_lineLength m_formattedLength m_bufferLength m_limit m_next m_beginsAt m_token m_error m_errorAt m_errorPosition m_nested m_codeCount)), (a_m_fam, .inl (cJ, 130, .inr (.inl m_fam))), ((ad 9), .inl (cI, 16, .inl m_generation)), ((ad 19), .inl (cJ, 256, .inr (.inl m_kinships_9)))] (some (.long r9)) := by
  intro d
  induction d with
  | zero => intro ad a_m_fam m_undoCount m_thrown m_hasSnapshot m_rows m_lineLength m_formattedLength m_bufferLength m_limit m_next m_beginsAt m_token m_error m_errorAt m_errorPosition m_nested m_codeCount m_fam m_generation m_kinships v1 v2 r9 m_kinships_9 hf; rw [p10_kinshipOf] at hf; cases hf
  | succ d ih =>
    intro ad a_m_fam m_undoCount m_thrown m_hasSnapshot m_rows m_lineLength m_formattedLength m_bufferLength m_limit m_next m_beginsAt m_token m_error m_errorAt m_errorPosition m_nested m_codeCount m_fam m_generation m_kinships v1 v2 r9 m_kinships_9 hf
    rw [p10_kinshipOf] at hf
    rw [show 60 + 1 * (d + 1) = (60 + 1 * d) + 1 by omega, show 3000 + 30 * (d + 1) = (3000 + 30 * d) + 30 by omega]
    exact c_X10_kinshipOf_o (p10_kinshipOf d) (60 + 1 * d) (3000 + 30 * d) (by omega) (by omega) ih ad a_m_fam m_undoCount m_thrown m_hasSnapshot m_rows m_lineLength m_formattedLength m_bufferLength m_limit m_next m_beginsAt m_token m_error m_errorAt m_errorPosition m_nested m_codeCount m_fam m_generation m_kinships v1 v2 r9 m_kinships_9 hf
theorem c_X10_kinshipOf (ad : Nat → Nat) (a_m_fam : Nat) (m_undoCount : Int32) (m_thrown : Int32) (m_hasSnapshot : Bool) (m_rows : Int32) (m_lineLength : Int32) (m_formattedLength : Int32) (m_bufferLength : Int32) (m_limit : Int32) (m_next : Int32) (m_beginsAt : Int32) (m_token : Int32) (m_error : Int32) (m_errorAt : Int32) (m_errorPosition : Int32) (m_nested : Int32) (m_codeCount : Int32) (m_fam : Nat → Int64) (m_generation : Nat → Int32) (m_kinships : Nat → Int64) (v1 : Int32) (v2 : Int32) (r9 : Int64) (m_kinships_9 : Nat → Int64) (hf : p10_kinshipOf 64 m_fam m_generation m_kinships v1 v2 = some (r9, m_kinships_9)) : gM l dC dI cI cJ cZ yX10_kinshipOf cX10_kinshipOf 11 (some .long) 124 4920 [.ref (ad 0), .int v1, .int v2] [(ad 0, .inr (10, oM ad m_undoCount m_thrown m_hasSnapshot a_m_fam m_rows m_lineLength m_formattedLength m_bufferLength m_limit m_next m_beginsAt m_token m_error m_errorAt m_errorPosition m_nested m_codeCount)), (a_m_fam, .inl (cJ, 130, .inr (.inl m_fam))), ((ad 9), .inl (cI, 16, .inl m_generation)), ((ad 19), .inl (cJ, 256, .inr (.inl m_kinships)))] [(ad 0, .inr (10, oM ad m_undoCount m_thrown m_hasSnapshot a_m_fam m_rows m_lineLength m_formattedLength m_bufferLength m_limit m_next m_beginsAt m_token m_error m_errorAt m_errorPosition m_nested m_codeCount)), (a_m_fam, .inl (cJ, 130, .inr (.inl m_fam))), ((ad 9), .inl (cI, 16, .inl m_generation)), ((ad 19), .inl (cJ, 256, .inr (.inl m_kinships_9)))] (some (.long r9)) := c_X10_kinshipOf_d 64 ad a_m_fam m_undoCount m_thrown m_hasSnapshot m_rows m_lineLength m_formattedLength m_bufferLength m_limit m_next m_beginsAt m_token m_error m_errorAt m_errorPosition m_nested m_codeCount m_fam m_generation m_kinships v1 v2 r9 m_kinships_9 hf
end G_31_FamilyChartModel04
