section G_31_FamilyChartModel02
variable {l : Launch} {dC : Nat → ClassId} {dI : Nat → Nat → Nat} {cI cJ cZ : ClassId} {adK adV : Nat → Nat}
set_option maxHeartbeats 4000000 in
set_option maxRecDepth 100000 in
theorem c_X10_distance (ad : Nat → Nat) (a_m_fam : Nat) (m_undoCount : Int32) (m_thrown : Int32) (m_hasSnapshot : Bool) (m_rows : Int32) (m_lineLength : Int32) (m_formattedLength : Int32) (m_bufferLength : Int32) (m_limit : Int32) (m_next : Int32) (m_beginsAt : Int32) (m_token : Int32) (m_error : Int32) (m_errorAt : Int32) (m_errorPosition : Int32) (m_nested : Int32) (m_codeCount : Int32) (m_fam : Nat → Int64) (v1 : Int32) (v2 : Int32) (r9 : Int32) (m_thrown_9 : Int32) (hf : p10_distance m_fam v1 v2 = some (r9, m_thrown_9)) : gM l dC dI cI cJ cZ yX10_distance cX10_distance 9 (some .int) (3) (68) [.ref (ad 0), .int v1, .int v2] [(ad 0, .inr (10, oM ad m_undoCount m_thrown m_hasSnapshot a_m_fam m_rows m_lineLength m_formattedLength m_bufferLength m_limit m_next m_beginsAt m_token m_error m_errorAt m_errorPosition m_nested m_codeCount)), (a_m_fam, .inl (cJ, 130, .inr (.inl m_fam)))] [(ad 0, .inr (10, oM ad m_undoCount m_thrown_9 m_hasSnapshot a_m_fam m_rows m_lineLength m_formattedLength m_bufferLength m_limit m_next m_beginsAt m_token m_error m_errorAt m_errorPosition m_nested m_codeCount)), (a_m_fam, .inl (cJ, 130, .inr (.inl m_fam)))] (some (.int r9)) := by
  refine g_start (own := RX10) (by decide +kernel) rfl (Nat.le_of_ble_eq_true rfl) ?_
  intro p e s m below meth c A ls S hr hlocks hE hP hD hS hA hl hin
  have hx := S.1
  have hb := S.2.1
  have hml := S.2.2.1
  have hown := S.2.2.2.1
  have htg : ∀ z ∈ gw, z.before ([.ref (ad 0), .int v1, .int v2] : List Value).toArray s = true := fun w h => S.2.2.2.2 w (List.mem_cons_of_mem _ h)
  have hl : lv_has ls 9 [(0, .ref (ad 0)), (1, .int v1), (2, .int v2)] := hl
  have hS0 := hS
  obtain ⟨H, hH⟩ : ∃ H, H = s.heap := ⟨_, rfl⟩
  obtain ⟨locs, hlc⟩ : ∃ locs : List Loc, locs = [] := ⟨_, rfl⟩
  have hS : va_S A s.heap H locs := by rw [hH, hlc]; exact hS0
  have hP : va_P (dC, dI) vwCl [(ad 0, .inr (10, oM ad m_undoCount m_thrown m_hasSnapshot a_m_fam m_rows m_lineLength m_formattedLength m_bufferLength m_limit m_next m_beginsAt m_token m_error m_errorAt m_errorPosition m_nested m_codeCount)), (a_m_fam, .inl (cJ, 130, .inr (.inl m_fam)))] H := by rw [hH]; exact hP
  suffices hgo : W p l e ({ frames := 3, cells := 0, slots := 0, locals := 68 }) s m ([.ref (ad 0), .int v1, .int v2] : List Value).toArray below meth c H locs 0 0 (MQ below (gQ dC dI (some (.int r9)) A [(ad 0, .inr (10, oM ad m_undoCount m_thrown_9 m_hasSnapshot a_m_fam m_rows m_lineLength m_formattedLength m_bufferLength m_limit m_next m_beginsAt m_token m_error m_errorAt m_errorPosition m_nested m_codeCount)), (a_m_fam, .inl (cJ, 130, .inr (.inl m_fam)))]) ([.ref (ad 0), .int v1, .int v2] : List Value).toArray s 0 0 A) (F0 m 0 ls []) by rw [hH, hlc] at hgo; exact hgo
  rw [p10_distance] at hf
  have J138 : ∀ (v3_138 : Int32) (v5_138 : Int32) (m_thrown_138 : Int32) (H : Heap) (locs : List Loc) (ls : Array Slot), p10_distance_J138 v2 v3_138 v5_138 m_thrown_138 = some (r9, m_thrown_9) → va_P (dC, dI) vwCl [(ad 0, .inr (10, oM ad m_undoCount m_thrown_138 m_hasSnapshot a_m_fam m_rows m_lineLength m_formattedLength m_bufferLength m_limit m_next m_beginsAt m_token m_error m_errorAt m_errorPosition m_nested m_codeCount)), (a_m_fam, .inl (cJ, 130, .inr (.inl m_fam)))] H → va_D A [(ad 0, .inr (10, oM ad m_undoCount m_thrown_138 m_hasSnapshot a_m_fam m_rows m_lineLength m_formattedLength m_bufferLength m_limit m_next m_beginsAt m_token m_error m_errorAt m_errorPosition m_nested m_codeCount)), (a_m_fam, .inl (cJ, 130, .inr (.inl m_fam)))] → va_S A s.heap H locs → lv_has ls 9 [(2, .int v2), (3, .int v3_138), (5, .int v5_138)] → W p l e ({ frames := 3, cells := 0, slots := 0, locals := 68 }) s m ([.ref (ad 0), .int v1, .int v2] : List Value).toArray below meth c H locs 0 0 (MQ below (gQ dC dI (some (.int r9)) A [(ad 0, .inr (10, oM ad m_undoCount m_thrown_9 m_hasSnapshot a_m_fam m_rows m_lineLength m_formattedLength m_bufferLength m_limit m_next m_beginsAt m_token m_error m_errorAt m_errorPosition m_nested m_codeCount)), (a_m_fam, .inl (cJ, 130, .inr (.inl m_fam)))]) ([.ref (ad 0), .int v1, .int v2] : List Value).toArray s 0 0 A) (F0 m 138 ls []) := by
    intro v3_138 v5_138 m_thrown_138 H locs ls hf hP hD hS hl
    rw [p10_distance_J138] at hf
    refine lv_iload_n hx hb dX10_distance_138 rfl (lv_at hl 1 rfl) ?_
    refine lv_iload_n hx hb dX10_distance_139 rfl (lv_at hl 0 rfl) ?_
    refine lv_ishr hx hb dX10_distance_140 ?_
    refine lv_iconst (v := 1) hx hb dX10_distance_141 (by decide) ?_
    refine lv_iand hx hb dX10_distance_142 ?_
    refine lv_iconst (v := 1) hx hb dX10_distance_143 (by decide) ?_
    refine lv_icmp_ne (tgt := 152) hx hb dX10_distance_144 (by decide) (fun h9 => ?_) (fun h9 => ?_)
    · have hf := itf h9 hf
      refine lv_iconst (v := -1) hx hb dX10_distance_152 (by decide) ?_
      cases hf
      exact g_iret S hr hlocks hP hD hS dX10_distance_153
    · have hf := itt h9 hf
      refine lv_iload hx hb dX10_distance_147 (lv_at hl 2 rfl) ?_
      refine lv_goto (tgt := 153) hx hb dX10_distance_149 (by decide) ?_
      cases hf
      exact g_iret S hr hlocks hP hD hS dX10_distance_153
  refine lv_aload_n hx hb dX10_distance_0 rfl (lv_at hl 0 rfl) ?_
  refine lv_iload_n hx hb dX10_distance_1 rfl (lv_at hl 1 rfl) ?_
  refine lv_iload_n hx hb dX10_distance_2 rfl (lv_at hl 2 rfl) ?_
  obtain ⟨⟨r3, m_thrown_3⟩, h9, hf⟩ := ob_s hf
  have hf := uc2_e hf
  refine gcV (index := 272) S hE (c_X10_arePersons ad a_m_fam m_undoCount m_thrown m_hasSnapshot m_rows m_lineLength m_formattedLength m_bufferLength m_limit m_next m_beginsAt m_token m_error m_errorAt m_errorPosition m_nested m_codeCount m_fam v1 v2 r3 m_thrown_3 h9) mX10_arePersons tw1664 ⟨Nat.le_of_ble_eq_true rfl, Nat.le_of_ble_eq_true rfl⟩ hP hD hS hA ⟨Nat.zero_le _, Nat.zero_le _⟩ 0 10 rfl rfl rfl (wr := []) [0, 1] [] rfl rfl rfl rfl (by decide) (As := [.int v1, .int v2]) (rest := []) rfl hl.1 rfl (Nat.le_of_ble_eq_true rfl) dX10_distance_3 (fun H locs hP hD hS => ?_)
  refine W.eq (g2 := F0 m 6 ls [.int (bI r3)]) rfl ?_
  have hP : va_P (dC, dI) vwCl [(ad 0, .inr (10, oM ad m_undoCount m_thrown_3 m_hasSnapshot a_m_fam m_rows m_lineLength m_formattedLength m_bufferLength m_limit m_next m_beginsAt m_token m_error m_errorAt m_errorPosition m_nested m_codeCount)), (a_m_fam, .inl (cJ, 130, .inr (.inl m_fam)))] H := hP
  have hD : va_D A [(ad 0, .inr (10, oM ad m_undoCount m_thrown_3 m_hasSnapshot a_m_fam m_rows m_lineLength m_formattedLength m_bufferLength m_limit m_next m_beginsAt m_token m_error m_errorAt m_errorPosition m_nested m_codeCount)), (a_m_fam, .inl (cJ, 130, .inr (.inl m_fam)))] := hD
  refine lv_if_ne (tgt := 11) hx hb dX10_distance_6 (by decide) (fun h9 => ?_) (fun h9 => ?_)
  · have hf := ctt (bI_1 h9) hf
    refine lv_iconst (v := 1) hx hb dX10_distance_11 (by decide) ?_
    refine lv_iload_n hx hb dX10_distance_12 rfl (lv_at hl 1 rfl) ?_
    refine lv_ishl hx hb dX10_distance_13 ?_
    refine lv_topi (fun t14 h9 => ?_)
    have hf := lb_e h9 hf
    refine lv_istore_n (lv' := [(3, .int t14), (0, .ref (ad 0)), (1, .int v1), (2, .int v2)]) hx hb dX10_distance_14 rfl hl (by decide) rfl (fun ls hl => ?_)
    refine lv_iload_n hx hb dX10_distance_15 rfl (lv_at hl 0 rfl) ?_
    refine lv_istore (lv' := [(4, .int t14), (3, .int t14), (0, .ref (ad 0)), (1, .int v1), (2, .int v2)]) hx hb dX10_distance_16 hl (by decide) rfl (fun ls hl => ?_)
    refine lv_iconst (v := 0) hx hb dX10_distance_18 (by decide) ?_
    refine lv_istore (lv' := [(5, .int (0 : Int32)), (4, .int t14), (3, .int t14), (0, .ref (ad 0)), (1, .int v1), (2, .int v2)]) hx hb dX10_distance_19 hl (by decide) rfl (fun ls hl => ?_)
    have K21 : ∀ (n21 : Nat) (v3_21 : Int32) (v4_21 : Int32) (v5_21 : Int32) (ex21 : Int32 × Int32) (H : Heap) (locs : List Loc) (ls : Array Slot), p10_distance_L21 m_fam v2 n21 v3_21 v4_21 v5_21 = some ex21 → (uc2 fun v3_x21 v5_x21 => p10_distance_J138 v2 v3_x21 v5_x21 m_thrown_3) ex21 = some (r9, m_thrown_9) → va_P (dC, dI) vwCl [(ad 0, .inr (10, oM ad m_undoCount m_thrown_3 m_hasSnapshot a_m_fam m_rows m_lineLength m_formattedLength m_bufferLength m_limit m_next m_beginsAt m_token m_error m_errorAt m_errorPosition m_nested m_codeCount)), (a_m_fam, .inl (cJ, 130, .inr (.inl m_fam)))] H → va_D A [(ad 0, .inr (10, oM ad m_undoCount m_thrown_3 m_hasSnapshot a_m_fam m_rows m_lineLength m_formattedLength m_bufferLength m_limit m_next m_beginsAt m_token m_error m_errorAt m_errorPosition m_nested m_codeCount)), (a_m_fam, .inl (cJ, 130, .inr (.inl m_fam)))] → va_S A s.heap H locs → lv_has ls 9 [(0, .ref (ad 0)), (2, .int v2), (3, .int v3_21), (4, .int v4_21), (5, .int v5_21)] → W p l e ({ frames := 3, cells := 0, slots := 0, locals := 68 }) s m ([.ref (ad 0), .int v1, .int v2] : List Value).toArray below meth c H locs 0 0 (MQ below (gQ dC dI (some (.int r9)) A [(ad 0, .inr (10, oM ad m_undoCount m_thrown_9 m_hasSnapshot a_m_fam m_rows m_lineLength m_formattedLength m_bufferLength m_limit m_next m_beginsAt m_token m_error m_errorAt m_errorPosition m_nested m_codeCount)), (a_m_fam, .inl (cJ, 130, .inr (.inl m_fam)))]) ([.ref (ad 0), .int v1, .int v2] : List Value).toArray s 0 0 A) (F0 m 21 ls []) := by
      intro n21
      induction n21 with
      | zero => intro v3_21 v4_21 v5_21 ex21 H locs ls hf; rw [p10_distance_L21] at hf; cases hf
      | succ n21 ih21 =>
        intro v3_21 v4_21 v5_21 ex21 H locs ls hf hk21 hP hD hS hl
        rw [p10_distance_L21, p10_distance_L21_B] at hf
        have J119 : ∀ (v6_119 : Int32) (H : Heap) (locs : List Loc) (ls : Array Slot), p10_distance_J119 (p10_distance_L21 m_fam v2 n21) v3_21 v5_21 v6_119 = some ex21 → va_P (dC, dI) vwCl [(ad 0, .inr (10, oM ad m_undoCount m_thrown_3 m_hasSnapshot a_m_fam m_rows m_lineLength m_formattedLength m_bufferLength m_limit m_next m_beginsAt m_token m_error m_errorAt m_errorPosition m_nested m_codeCount)), (a_m_fam, .inl (cJ, 130, .inr (.inl m_fam)))] H → va_D A [(ad 0, .inr (10, oM ad m_undoCount m_thrown_3 m_hasSnapshot a_m_fam m_rows m_lineLength m_formattedLength m_bufferLength m_limit m_next m_beginsAt m_token m_error m_errorAt m_errorPosition m_nested m_codeCount)), (a_m_fam, .inl (cJ, 130, .inr (.inl m_fam)))] → va_S A s.heap H locs → lv_has ls 9 [(0, .ref (ad 0)), (2, .int v2), (3, .int v3_21), (5, .int v5_21), (6, .int v6_119)] → W p l e ({ frames := 3, cells := 0, slots := 0, locals := 68 }) s m ([.ref (ad 0), .int v1, .int v2] : List Value).toArray below meth c H locs 0 0 (MQ below (gQ dC dI (some (.int r9)) A [(ad 0, .inr (10, oM ad m_undoCount m_thrown_9 m_hasSnapshot a_m_fam m_rows m_lineLength m_formattedLength m_bufferLength m_limit m_next m_beginsAt m_token m_error m_errorAt m_errorPosition m_nested m_codeCount)), (a_m_fam, .inl (cJ, 130, .inr (.inl m_fam)))]) ([.ref (ad 0), .int v1, .int v2] : List Value).toArray s 0 0 A) (F0 m 119 ls []) := by
          intro v6_119 H locs ls hf hP hD hS hl
          rw [p10_distance_J119] at hf
          refine lv_iload hx hb dX10_distance_119 (lv_at hl 4 rfl) ?_
          refine lv_iload_n hx hb dX10_distance_121 rfl (lv_at hl 2 rfl) ?_
          refine lv_iconst (v := -1) hx hb dX10_distance_122 (by decide) ?_
          refine lv_ixor hx hb dX10_distance_123 ?_
          refine lv_iand hx hb dX10_distance_124 ?_
          refine lv_topi (fun t125 h9 => ?_)
          have hf := lb_e h9 hf
          refine lv_istore (lv' := [(4, .int t125), (0, .ref (ad 0)), (2, .int v2), (3, .int v3_21), (5, .int v5_21), (6, .int v6_119)]) hx hb dX10_distance_125 hl (by decide) rfl (fun ls hl => ?_)
          refine lv_iload_n hx hb dX10_distance_127 rfl (lv_at hl 3 rfl) ?_
          refine lv_iload hx hb dX10_distance_128 (lv_at hl 5 rfl) ?_
          refine lv_ior hx hb dX10_distance_130 ?_
          refine lv_topi (fun t131 h9 => ?_)
          have hf := lb_e h9 hf
          refine lv_istore_n (lv' := [(3, .int t131), (4, .int t125), (0, .ref (ad 0)), (2, .int v2), (5, .int v5_21), (6, .int v6_119)]) hx hb dX10_distance_131 rfl hl (by decide) rfl (fun ls hl => ?_)
          obtain ⟨t132, h9⟩ : ∃ z : Int32, z = (v5_21 + (1 : Int32)) := ⟨_, rfl⟩
          have hf := lb_e h9 hf
          refine lv_iinc (v := t132) (lv' := [(5, .int t132), (3, .int t131), (4, .int t125), (0, .ref (ad 0)), (2, .int v2), (6, .int v6_119)]) hx hb dX10_distance_132 hl (k := 4) rfl (by rw [h9]; rfl) (by decide) rfl (fun ls hl => ?_)
          refine lv_goto (tgt := 21) hx hb dX10_distance_135 (by decide) ?_
          exact ih21 t131 t125 t132 ex21 H locs ls hf hk21 hP hD hS (lv_sub hl [3, 4, 1, 2, 0] rfl)
        refine lv_iload_n hx hb dX10_distance_21 rfl (lv_at hl 2 rfl) ?_
        refine lv_iload_n hx hb dX10_distance_22 rfl (lv_at hl 1 rfl) ?_
        refine lv_ishr hx hb dX10_distance_23 ?_
        refine lv_iconst (v := 1) hx hb dX10_distance_24 (by decide) ?_
        refine lv_iand hx hb dX10_distance_25 ?_
        refine lv_if_ne (tgt := 138) hx hb dX10_distance_26 (by decide) (fun h9 => ?_) (fun h9 => ?_)
        · have hf := itf h9 hf
          cases hf
          have hf := hk21
          have hf := uc2_e hf
          exact J138 v3_21 v5_21 m_thrown_3 H locs ls hf hP hD hS (lv_sub hl [1, 2, 4] rfl)
        · have hf := itt h9 hf
          refine lv_iload hx hb dX10_distance_29 (lv_at hl 3 rfl) ?_
          refine lv_if_eq (tgt := 138) hx hb dX10_distance_31 (by decide) (fun h9 => ?_) (fun h9 => ?_)
          · have hf := itt h9 hf
            cases hf
            have hf := hk21
            have hf := uc2_e hf
            exact J138 v3_21 v5_21 m_thrown_3 H locs ls hf hP hD hS (lv_sub hl [1, 2, 4] rfl)
          · have hf := itf h9 hf
            refine lv_iconst (v := 0) hx hb dX10_distance_34 (by decide) ?_
            refine lv_istore (lv' := [(6, .int (0 : Int32)), (0, .ref (ad 0)), (2, .int v2), (3, .int v3_21), (4, .int v4_21), (5, .int v5_21)]) hx hb dX10_distance_35 hl (by decide) rfl (fun ls hl => ?_)
            refine lv_iconst (v := 0) hx hb dX10_distance_37 (by decide) ?_
            refine lv_istore (lv' := [(7, .int (0 : Int32)), (6, .int (0 : Int32)), (0, .ref (ad 0)), (2, .int v2), (3, .int v3_21), (4, .int v4_21), (5, .int v5_21)]) hx hb dX10_distance_38 hl (by decide) rfl (fun ls hl => ?_)
            have K40 : ∀ (n40 : Nat) (v6_40 : Int32) (v7_40 : Int32) (ex40 : Int32) (H : Heap) (locs : List Loc) (ls : Array Slot), p10_distance_L40 m_fam v4_21 n40 v6_40 v7_40 = some ex40 → (fun v6_x40 => p10_distance_J119 (p10_distance_L21 m_fam v2 n21) v3_21 v5_21 v6_x40) ex40 = some ex21 → va_P (dC, dI) vwCl [(ad 0, .inr (10, oM ad m_undoCount m_thrown_3 m_hasSnapshot a_m_fam m_rows m_lineLength m_formattedLength m_bufferLength m_limit m_next m_beginsAt m_token m_error m_errorAt m_errorPosition m_nested m_codeCount)), (a_m_fam, .inl (cJ, 130, .inr (.inl m_fam)))] H → va_D A [(ad 0, .inr (10, oM ad m_undoCount m_thrown_3 m_hasSnapshot a_m_fam m_rows m_lineLength m_formattedLength m_bufferLength m_limit m_next m_beginsAt m_token m_error m_errorAt m_errorPosition m_nested m_codeCount)), (a_m_fam, .inl (cJ, 130, .inr (.inl m_fam)))] → va_S A s.heap H locs → lv_has ls 9 [(0, .ref (ad 0)), (2, .int v2), (3, .int v3_21), (4, .int v4_21), (5, .int v5_21), (6, .int v6_40), (7, .int v7_40)] → W p l e ({ frames := 3, cells := 0, slots := 0, locals := 68 }) s m ([.ref (ad 0), .int v1, .int v2] : List Value).toArray below meth c H locs 0 0 (MQ below (gQ dC dI (some (.int r9)) A [(ad 0, .inr (10, oM ad m_undoCount m_thrown_9 m_hasSnapshot a_m_fam m_rows m_lineLength m_formattedLength m_bufferLength m_limit m_next m_beginsAt m_token m_error m_errorAt m_errorPosition m_nested m_codeCount)), (a_m_fam, .inl (cJ, 130, .inr (.inl m_fam)))]) ([.ref (ad 0), .int v1, .int v2] : List Value).toArray s 0 0 A) (F0 m 40 ls []) := by
              intro n40
              induction n40 with
              | zero => intro v6_40 v7_40 ex40 H locs ls hf; rw [p10_distance_L40] at hf; cases hf
              | succ n40 ih40 =>
                intro v6_40 v7_40 ex40 H locs ls hf hk40 hP hD hS hl
                rw [p10_distance_L40, p10_distance_L40_B] at hf
                have J113 : ∀ (v6_113 : Int32) (H : Heap) (locs : List Loc) (ls : Array Slot), p10_distance_J113 (p10_distance_L40 m_fam v4_21 n40) v7_40 v6_113 = some ex40 → va_P (dC, dI) vwCl [(ad 0, .inr (10, oM ad m_undoCount m_thrown_3 m_hasSnapshot a_m_fam m_rows m_lineLength m_formattedLength m_bufferLength m_limit m_next m_beginsAt m_token m_error m_errorAt m_errorPosition m_nested m_codeCount)), (a_m_fam, .inl (cJ, 130, .inr (.inl m_fam)))] H → va_D A [(ad 0, .inr (10, oM ad m_undoCount m_thrown_3 m_hasSnapshot a_m_fam m_rows m_lineLength m_formattedLength m_bufferLength m_limit m_next m_beginsAt m_token m_error m_errorAt m_errorPosition m_nested m_codeCount)), (a_m_fam, .inl (cJ, 130, .inr (.inl m_fam)))] → va_S A s.heap H locs → lv_has ls 9 [(0, .ref (ad 0)), (2, .int v2), (3, .int v3_21), (4, .int v4_21), (5, .int v5_21), (6, .int v6_113), (7, .int v7_40)] → W p l e ({ frames := 3, cells := 0, slots := 0, locals := 68 }) s m ([.ref (ad 0), .int v1, .int v2] : List Value).toArray below meth c H locs 0 0 (MQ below (gQ dC dI (some (.int r9)) A [(ad 0, .inr (10, oM ad m_undoCount m_thrown_9 m_hasSnapshot a_m_fam m_rows m_lineLength m_formattedLength m_bufferLength m_limit m_next m_beginsAt m_token m_error m_errorAt m_errorPosition m_nested m_codeCount)), (a_m_fam, .inl (cJ, 130, .inr (.inl m_fam)))]) ([.ref (ad 0), .int v1, .int v2] : List Value).toArray s 0 0 A) (F0 m 113 ls []) := by
                  intro v6_113 H locs ls hf hP hD hS hl
                  rw [p10_distance_J113] at hf
                  obtain ⟨t113, h9⟩ : ∃ z : Int32, z = (v7_40 + (1 : Int32)) := ⟨_, rfl⟩
                  have hf := lb_e h9 hf
                  refine lv_iinc (v := t113) (lv' := [(7, .int t113), (0, .ref (ad 0)), (2, .int v2), (3, .int v3_21), (4, .int v4_21), (5, .int v5_21), (6, .int v6_113)]) hx hb dX10_distance_113 hl (k := 6) rfl (by rw [h9]; rfl) (by decide) rfl (fun ls hl => ?_)
                  refine lv_goto (tgt := 40) hx hb dX10_distance_116 (by decide) ?_
                  exact ih40 v6_113 t113 ex40 H locs ls hf hk40 hP hD hS (lv_sub hl [1, 2, 3, 4, 5, 6, 0] rfl)
                refine lv_iload hx hb dX10_distance_40 (lv_at hl 6 rfl) ?_
                refine lv_aload_n hx hb dX10_distance_42 rfl (lv_at hl 0 rfl) ?_
                obtain ⟨r43, h9, hf⟩ := ob_s hf
                refine gcV (index := 121) S hE (c_X10_persons ad a_m_fam m_undoCount m_thrown_3 m_hasSnapshot m_rows m_lineLength m_formattedLength m_bufferLength m_limit m_next m_beginsAt m_token m_error m_errorAt m_errorPosition m_nested m_codeCount m_fam r43 h9) mX10_persons tw1511 ⟨Nat.le_of_ble_eq_true rfl, Nat.le_of_ble_eq_true rfl⟩ hP hD hS hA ⟨Nat.zero_le _, Nat.zero_le _⟩ 0 10 rfl rfl rfl (wr := []) [0, 1] [] rfl rfl rfl rfl (by decide) (As := []) (rest := [.int v7_40]) rfl hl.1 rfl (Nat.le_of_ble_eq_true rfl) dX10_distance_43 (fun H locs hP hD hS => ?_)
                refine W.eq (g2 := F0 m 46 ls [.int r43, .int v7_40]) rfl ?_
                have hP : va_P (dC, dI) vwCl [(ad 0, .inr (10, oM ad m_undoCount m_thrown_3 m_hasSnapshot a_m_fam m_rows m_lineLength m_formattedLength m_bufferLength m_limit m_next m_beginsAt m_token m_error m_errorAt m_errorPosition m_nested m_codeCount)), (a_m_fam, .inl (cJ, 130, .inr (.inl m_fam)))] H := hP
                have hD : va_D A [(ad 0, .inr (10, oM ad m_undoCount m_thrown_3 m_hasSnapshot a_m_fam m_rows m_lineLength m_formattedLength m_bufferLength m_limit m_next m_beginsAt m_token m_error m_errorAt m_errorPosition m_nested m_codeCount)), (a_m_fam, .inl (cJ, 130, .inr (.inl m_fam)))] := hD
                refine lv_icmp_ge (tgt := 119) hx hb dX10_distance_46 (by decide) (fun h9 => ?_) (fun h9 => ?_)
                · have hf := itt h9 hf
                  cases hf
                  have hf := hk40
                  exact J119 v6_40 H locs ls hf hP hD hS (lv_sub hl [0, 1, 2, 4, 5] rfl)
                · have hf := itf h9 hf
                  refine lv_iconst (v := 0) hx hb dX10_distance_49 (by decide) ?_
                  refine lv_istore (lv' := [(8, .int (0 : Int32)), (0, .ref (ad 0)), (2, .int v2), (3, .int v3_21), (4, .int v4_21), (5, .int v5_21), (6, .int v6_40), (7, .int v7_40)]) hx hb dX10_distance_50 hl (by decide) rfl (fun ls hl => ?_)
                  have K52 : ∀ (n52 : Nat) (v6_52 : Int32) (v8_52 : Int32) (ex52 : Int32) (H : Heap) (locs : List Loc) (ls : Array Slot), p10_distance_L52 m_fam v4_21 v7_40 n52 v6_52 v8_52 = some ex52 → (fun v6_x52 => p10_distance_J113 (p10_distance_L40 m_fam v4_21 n40) v7_40 v6_x52) ex52 = some ex40 → va_P (dC, dI) vwCl [(ad 0, .inr (10, oM ad m_undoCount m_thrown_3 m_hasSnapshot a_m_fam m_rows m_lineLength m_formattedLength m_bufferLength m_limit m_next m_beginsAt m_token m_error m_errorAt m_errorPosition m_nested m_codeCount)), (a_m_fam, .inl (cJ, 130, .inr (.inl m_fam)))] H → va_D A [(ad 0, .inr (10, oM ad m_undoCount m_thrown_3 m_hasSnapshot a_m_fam m_rows m_lineLength m_formattedLength m_bufferLength m_limit m_next m_beginsAt m_token m_error m_errorAt m_errorPosition m_nested m_codeCount)), (a_m_fam, .inl (cJ, 130, .inr (.inl m_fam)))] → va_S A s.heap H locs → lv_has ls 9 [(0, .ref (ad 0)), (2, .int v2), (3, .int v3_21), (4, .int v4_21), (5, .int v5_21), (6, .int v6_52), (7, .int v7_40), (8, .int v8_52)] → W p l e ({ frames := 3, cells := 0, slots := 0, locals := 68 }) s m ([.ref (ad 0), .int v1, .int v2] : List Value).toArray below meth c H locs 0 0 (MQ below (gQ dC dI (some (.int r9)) A [(ad 0, .inr (10, oM ad m_undoCount m_thrown_9 m_hasSnapshot a_m_fam m_rows m_lineLength m_formattedLength m_bufferLength m_limit m_next m_beginsAt m_token m_error m_errorAt m_errorPosition m_nested m_codeCount)), (a_m_fam, .inl (cJ, 130, .inr (.inl m_fam)))]) ([.ref (ad 0), .int v1, .int v2] : List Value).toArray s 0 0 A) (F0 m 52 ls []) := by
                    intro n52
                    induction n52 with
                    | zero => intro v6_52 v8_52 ex52 H locs ls hf; rw [p10_distance_L52] at hf; cases hf
                    | succ n52 ih52 =>
                      intro v6_52 v8_52 ex52 H locs ls hf hk52 hP hD hS hl
                      rw [p10_distance_L52, p10_distance_L52_B] at hf
                      refine lv_iload hx hb dX10_distance_52 (lv_at hl 7 rfl) ?_
                      refine lv_aload_n hx hb dX10_distance_54 rfl (lv_at hl 0 rfl) ?_
                      obtain ⟨r55, h9, hf⟩ := ob_s hf
                      refine gcV (index := 121) S hE (c_X10_persons ad a_m_fam m_undoCount m_thrown_3 m_hasSnapshot m_rows m_lineLength m_formattedLength m_bufferLength m_limit m_next m_beginsAt m_token m_error m_errorAt m_errorPosition m_nested m_codeCount m_fam r55 h9) mX10_persons tw1511 ⟨Nat.le_of_ble_eq_true rfl, Nat.le_of_ble_eq_true rfl⟩ hP hD hS hA ⟨Nat.zero_le _, Nat.zero_le _⟩ 0 10 rfl rfl rfl (wr := []) [0, 1] [] rfl rfl rfl rfl (by decide) (As := []) (rest := [.int v8_52]) rfl hl.1 rfl (Nat.le_of_ble_eq_true rfl) dX10_distance_55 (fun H locs hP hD hS => ?_)
                      refine W.eq (g2 := F0 m 58 ls [.int r55, .int v8_52]) rfl ?_
                      have hP : va_P (dC, dI) vwCl [(ad 0, .inr (10, oM ad m_undoCount m_thrown_3 m_hasSnapshot a_m_fam m_rows m_lineLength m_formattedLength m_bufferLength m_limit m_next m_beginsAt m_token m_error m_errorAt m_errorPosition m_nested m_codeCount)), (a_m_fam, .inl (cJ, 130, .inr (.inl m_fam)))] H := hP
                      have hD : va_D A [(ad 0, .inr (10, oM ad m_undoCount m_thrown_3 m_hasSnapshot a_m_fam m_rows m_lineLength m_formattedLength m_bufferLength m_limit m_next m_beginsAt m_token m_error m_errorAt m_errorPosition m_nested m_codeCount)), (a_m_fam, .inl (cJ, 130, .inr (.inl m_fam)))] := hD
                      refine lv_icmp_ge (tgt := 113) hx hb dX10_distance_58 (by decide) (fun h9 => ?_) (fun h9 => ?_)
                      · have hf := itt h9 hf
                        cases hf
                        have hf := hk52
                        exact J113 v6_52 H locs ls hf hP hD hS (lv_sub hl [0, 1, 2, 3, 4, 5, 6] rfl)
                      · have hf := itf h9 hf
                        refine lv_iload hx hb dX10_distance_61 (lv_at hl 3 rfl) ?_
                        refine lv_iload hx hb dX10_distance_63 (lv_at hl 6 rfl) ?_
                        refine lv_ishr hx hb dX10_distance_65 ?_
                        refine lv_iconst (v := 1) hx hb dX10_distance_66 (by decide) ?_
                        refine lv_iand hx hb dX10_distance_67 ?_
                        refine lv_iconst (v := 1) hx hb dX10_distance_68 (by decide) ?_
                        refine lv_icmp_ne (tgt := 113) hx hb dX10_distance_69 (by decide) (fun h9 => ?_) (fun h9 => ?_)
                        · have hf := itf h9 hf
                          cases hf
                          have hf := hk52
                          exact J113 v6_52 H locs ls hf hP hD hS (lv_sub hl [0, 1, 2, 3, 4, 5, 6] rfl)
                        · have hf := itt h9 hf
                          refine lv_iload hx hb dX10_distance_72 (lv_at hl 5 rfl) ?_
                          refine lv_aload_n hx hb dX10_distance_74 rfl (lv_at hl 0 rfl) ?_
                          refine lv_iload hx hb dX10_distance_75 (lv_at hl 6 rfl) ?_
                          refine lv_iload hx hb dX10_distance_77 (lv_at hl 7 rfl) ?_
                          obtain ⟨r79, h9, hf⟩ := ob_s hf
                          refine gcV (index := 278) S hE (c_X10_isParent ad a_m_fam m_undoCount m_thrown_3 m_hasSnapshot m_rows m_lineLength m_formattedLength m_bufferLength m_limit m_next m_beginsAt m_token m_error m_errorAt m_errorPosition m_nested m_codeCount m_fam v7_40 v8_52 r79 h9) mX10_isParent tw1687 ⟨Nat.le_of_ble_eq_true rfl, Nat.le_of_ble_eq_true rfl⟩ hP hD hS hA ⟨Nat.zero_le _, Nat.zero_le _⟩ 0 10 rfl rfl rfl (wr := []) [0, 1] [] rfl rfl rfl rfl (by decide) (As := [.int v7_40, .int v8_52]) (rest := [.int v6_52]) rfl hl.1 rfl (Nat.le_of_ble_eq_true rfl) dX10_distance_79 (fun H locs hP hD hS => ?_)
                          refine W.eq (g2 := F0 m 82 ls [.int (bI r79), .int v6_52]) rfl ?_
                          have hP : va_P (dC, dI) vwCl [(ad 0, .inr (10, oM ad m_undoCount m_thrown_3 m_hasSnapshot a_m_fam m_rows m_lineLength m_formattedLength m_bufferLength m_limit m_next m_beginsAt m_token m_error m_errorAt m_errorPosition m_nested m_codeCount)), (a_m_fam, .inl (cJ, 130, .inr (.inl m_fam)))] H := hP
                          have hD : va_D A [(ad 0, .inr (10, oM ad m_undoCount m_thrown_3 m_hasSnapshot a_m_fam m_rows m_lineLength m_formattedLength m_bufferLength m_limit m_next m_beginsAt m_token m_error m_errorAt m_errorPosition m_nested m_codeCount)), (a_m_fam, .inl (cJ, 130, .inr (.inl m_fam)))] := hD
                          refine lv_if_ne (tgt := 96) hx hb dX10_distance_82 (by decide) (fun h9 => ?_) (fun h9 => ?_)
                          · have hf := ctt (bI_1 h9) hf
                            refine lv_iconst (v := 1) hx hb dX10_distance_96 (by decide) ?_
                            refine lv_iload hx hb dX10_distance_97 (lv_at hl 7 rfl) ?_
                            refine lv_ishl hx hb dX10_distance_99 ?_
                            refine lv_goto (tgt := 104) hx hb dX10_distance_100 (by decide) ?_
                            refine lv_ior hx hb dX10_distance_104 ?_
                            refine lv_topi (fun t105 h9 => ?_)
                            have hf := lb_e h9 hf
                            refine lv_istore (lv' := [(6, .int t105), (0, .ref (ad 0)), (2, .int v2), (3, .int v3_21), (4, .int v4_21), (5, .int v5_21), (7, .int v7_40), (8, .int v8_52)]) hx hb dX10_distance_105 hl (by decide) rfl (fun ls hl => ?_)
                            obtain ⟨t107, h9⟩ : ∃ z : Int32, z = (v8_52 + (1 : Int32)) := ⟨_, rfl⟩
                            have hf := lb_e h9 hf
                            refine lv_iinc (v := t107) (lv' := [(8, .int t107), (6, .int t105), (0, .ref (ad 0)), (2, .int v2), (3, .int v3_21), (4, .int v4_21), (5, .int v5_21), (7, .int v7_40)]) hx hb dX10_distance_107 hl (k := 7) rfl (by rw [h9]; rfl) (by decide) rfl (fun ls hl => ?_)
                            refine lv_goto (tgt := 52) hx hb dX10_distance_110 (by decide) ?_
                            exact ih52 t105 t107 ex52 H locs ls hf hk52 hP hD hS (lv_sub hl [2, 3, 4, 5, 6, 1, 7, 0] rfl)
                          · have hf := ctf (bI_0 h9) hf
                            refine lv_aload_n hx hb dX10_distance_85 rfl (lv_at hl 0 rfl) ?_
                            refine lv_iload hx hb dX10_distance_86 (lv_at hl 7 rfl) ?_
                            refine lv_iload hx hb dX10_distance_88 (lv_at hl 6 rfl) ?_
                            obtain ⟨r90, h9, hf⟩ := ob_s hf
                            refine gcV (index := 278) S hE (c_X10_isParent ad a_m_fam m_undoCount m_thrown_3 m_hasSnapshot m_rows m_lineLength m_formattedLength m_bufferLength m_limit m_next m_beginsAt m_token m_error m_errorAt m_errorPosition m_nested m_codeCount m_fam v8_52 v7_40 r90 h9) mX10_isParent tw1687 ⟨Nat.le_of_ble_eq_true rfl, Nat.le_of_ble_eq_true rfl⟩ hP hD hS hA ⟨Nat.zero_le _, Nat.zero_le _⟩ 0 10 rfl rfl rfl (wr := []) [0, 1] [] rfl rfl rfl rfl (by decide) (As := [.int v8_52, .int v7_40]) (rest := [.int v6_52]) rfl hl.1 rfl (Nat.le_of_ble_eq_true rfl) dX10_distance_90 (fun H locs hP hD hS => ?_)
                            refine W.eq (g2 := F0 m 93 ls [.int (bI r90), .int v6_52]) rfl ?_
                            have hP : va_P (dC, dI) vwCl [(ad 0, .inr (10, oM ad m_undoCount m_thrown_3 m_hasSnapshot a_m_fam m_rows m_lineLength m_formattedLength m_bufferLength m_limit m_next m_beginsAt m_token m_error m_errorAt m_errorPosition m_nested m_codeCount)), (a_m_fam, .inl (cJ, 130, .inr (.inl m_fam)))] H := hP
                            have hD : va_D A [(ad 0, .inr (10, oM ad m_undoCount m_thrown_3 m_hasSnapshot a_m_fam m_rows m_lineLength m_formattedLength m_bufferLength m_limit m_next m_beginsAt m_token m_error m_errorAt m_errorPosition m_nested m_codeCount)), (a_m_fam, .inl (cJ, 130, .inr (.inl m_fam)))] := hD
                            refine lv_if_eq (tgt := 103) hx hb dX10_distance_93 (by decide) (fun h9 => ?_) (fun h9 => ?_)
                            · have hf := ctf (bI_0 h9) hf
                              refine lv_iconst (v := 0) hx hb dX10_distance_103 (by decide) ?_
                              refine lv_ior hx hb dX10_distance_104 ?_
                              refine lv_topi (fun t105 h9 => ?_)
                              have hf := lb_e h9 hf
                              refine lv_istore (lv' := [(6, .int t105), (0, .ref (ad 0)), (2, .int v2), (3, .int v3_21), (4, .int v4_21), (5, .int v5_21), (7, .int v7_40), (8, .int v8_52)]) hx hb dX10_distance_105 hl (by decide) rfl (fun ls hl => ?_)
                              obtain ⟨t107, h9⟩ : ∃ z : Int32, z = (v8_52 + (1 : Int32)) := ⟨_, rfl⟩
                              have hf := lb_e h9 hf
                              refine lv_iinc (v := t107) (lv' := [(8, .int t107), (6, .int t105), (0, .ref (ad 0)), (2, .int v2), (3, .int v3_21), (4, .int v4_21), (5, .int v5_21), (7, .int v7_40)]) hx hb dX10_distance_107 hl (k := 7) rfl (by rw [h9]; rfl) (by decide) rfl (fun ls hl => ?_)
                              refine lv_goto (tgt := 52) hx hb dX10_distance_110 (by decide) ?_
                              exact ih52 t105 t107 ex52 H locs ls hf hk52 hP hD hS (lv_sub hl [2, 3, 4, 5, 6, 1, 7, 0] rfl)
                            · have hf := ctt (bI_1 h9) hf
                              refine lv_iconst (v := 1) hx hb dX10_distance_96 (by decide) ?_
                              refine lv_iload hx hb dX10_distance_97 (lv_at hl 7 rfl) ?_
                              refine lv_ishl hx hb dX10_distance_99 ?_
                              refine lv_goto (tgt := 104) hx hb dX10_distance_100 (by decide) ?_
                              refine lv_ior hx hb dX10_distance_104 ?_
                              refine lv_topi (fun t105 h9 => ?_)
                              have hf := lb_e h9 hf
                              refine lv_istore (lv' := [(6, .int t105), (0, .ref (ad 0)), (2, .int v2), (3, .int v3_21), (4, .int v4_21), (5, .int v5_21), (7, .int v7_40), (8, .int v8_52)]) hx hb dX10_distance_105 hl (by decide) rfl (fun ls hl => ?_)
                              obtain ⟨t107, h9⟩ : ∃ z : Int32, z = (v8_52 + (1 : Int32)) := ⟨_, rfl⟩
                              have hf := lb_e h9 hf
                              refine lv_iinc (v := t107) (lv' := [(8, .int t107), (6, .int t105), (0, .ref (ad 0)), (2, .int v2), (3, .int v3_21), (4, .int v4_21), (5, .int v5_21), (7, .int v7_40)]) hx hb dX10_distance_107 hl (k := 7) rfl (by rw [h9]; rfl) (by decide) rfl (fun ls hl => ?_)
                              refine lv_goto (tgt := 52) hx hb dX10_distance_110 (by decide) ?_
                              exact ih52 t105 t107 ex52 H locs ls hf hk52 hP hD hS (lv_sub hl [2, 3, 4, 5, 6, 1, 7, 0] rfl)
                  obtain ⟨ex, h9, hf⟩ := ob_s hf
                  exact K52 FU v6_40 (0 : Int32) ex H locs ls h9 hf hP hD hS (lv_sub hl [1, 2, 3, 4, 5, 6, 7, 0] rfl)
            obtain ⟨ex, h9, hf⟩ := ob_s hf
            exact K40 FU (0 : Int32) (0 : Int32) ex H locs ls h9 hf hP hD hS (lv_sub hl [2, 3, 4, 5, 6, 1, 0] rfl)
    obtain ⟨ex, h9, hf⟩ := ob_s hf
    exact K21 FU t14 t14 (0 : Int32) ex H locs ls h9 hf hP hD hS (lv_sub hl [3, 5, 2, 1, 0] rfl)
  · have hf := ctf (bI_0 h9) hf
    refine lv_iconst (v := 0) hx hb dX10_distance_9 (by decide) ?_
    cases hf
    exact g_iret S hr hlocks hP hD hS dX10_distance_10
set_option maxHeartbeats 4000000 in
set_option maxRecDepth 100000 in
theorem c_X10_beginWays (ad : Nat → Nat) (a_m_fam : Nat) (m_undoCount : Int32) (m_thrown : Int32) (m_hasSnapshot : Bool) (m_rows : Int32) (m_lineLength : Int32) (m_formattedLength : Int32) (m_bufferLength : Int32) (m_limit : Int32) (m_next : Int32) (m_beginsAt : Int32) (m_token : Int32) (m_error : Int32) (m_errorAt : Int32) (m_errorPosition : Int32) (m_nested : Int32) (m_codeCount : Int32) (m_ways : Nat → Int32) (v1 : Int32) (m_ways_9 : Nat → Int32) (hf : p10_beginWays m_ways v1 = some m_ways_9) : gM l dC dI cI cJ cZ yX10_beginWays cX10_beginWays 3 none (0) (0) [.ref (ad 0), .int v1] [(ad 0, .inr (10, oM ad m_undoCount m_thrown m_hasSnapshot a_m_fam m_rows m_lineLength m_formattedLength m_bufferLength m_limit m_next m_beginsAt m_token m_error m_errorAt m_errorPosition m_nested m_codeCount)), ((ad 20), .inl (cI, 16, .inl m_ways))] [(ad 0, .inr (10, oM ad m_undoCount m_thrown m_hasSnapshot a_m_fam m_rows m_lineLength m_formattedLength m_bufferLength m_limit m_next m_beginsAt m_token m_error m_errorAt m_errorPosition m_nested m_codeCount)), ((ad 20), .inl (cI, 16, .inl m_ways_9))] none := by
  refine g_start (own := RX10) (by decide +kernel) rfl (Nat.le_of_ble_eq_true rfl) ?_
  intro p e s m below meth c A ls S hr hlocks hE hP hD hS hA hl hin
  have hx := S.1
  have hb := S.2.1
  have hml := S.2.2.1
  have hown := S.2.2.2.1
  have htg : ∀ z ∈ gw, z.before ([.ref (ad 0), .int v1] : List Value).toArray s = true := fun w h => S.2.2.2.2 w (List.mem_cons_of_mem _ h)
  have hl : lv_has ls 3 [(0, .ref (ad 0)), (1, .int v1)] := hl
  have hS0 := hS
  obtain ⟨H, hH⟩ : ∃ H, H = s.heap := ⟨_, rfl⟩
  obtain ⟨locs, hlc⟩ : ∃ locs : List Loc, locs = [] := ⟨_, rfl⟩
  have hS : va_S A s.heap H locs := by rw [hH, hlc]; exact hS0
  have hP : va_P (dC, dI) vwCl [(ad 0, .inr (10, oM ad m_undoCount m_thrown m_hasSnapshot a_m_fam m_rows m_lineLength m_formattedLength m_bufferLength m_limit m_next m_beginsAt m_token m_error m_errorAt m_errorPosition m_nested m_codeCount)), ((ad 20), .inl (cI, 16, .inl m_ways))] H := by rw [hH]; exact hP
  suffices hgo : W p l e ({ frames := 0, cells := 0, slots := 0, locals := 0 }) s m ([.ref (ad 0), .int v1] : List Value).toArray below meth c H locs 0 0 (MQ below (gQ dC dI none A [(ad 0, .inr (10, oM ad m_undoCount m_thrown m_hasSnapshot a_m_fam m_rows m_lineLength m_formattedLength m_bufferLength m_limit m_next m_beginsAt m_token m_error m_errorAt m_errorPosition m_nested m_codeCount)), ((ad 20), .inl (cI, 16, .inl m_ways_9))]) ([.ref (ad 0), .int v1] : List Value).toArray s 0 0 A) (F0 m 0 ls []) by rw [hH, hlc] at hgo; exact hgo
  rw [p10_beginWays] at hf
  have J30 : ∀ (m_ways_30 : Nat → Int32) (H : Heap) (locs : List Loc) (ls : Array Slot), p10_beginWays_J30 m_ways_30 = some m_ways_9 → va_P (dC, dI) vwCl [(ad 0, .inr (10, oM ad m_undoCount m_thrown m_hasSnapshot a_m_fam m_rows m_lineLength m_formattedLength m_bufferLength m_limit m_next m_beginsAt m_token m_error m_errorAt m_errorPosition m_nested m_codeCount)), ((ad 20), .inl (cI, 16, .inl m_ways_30))] H → va_D A [(ad 0, .inr (10, oM ad m_undoCount m_thrown m_hasSnapshot a_m_fam m_rows m_lineLength m_formattedLength m_bufferLength m_limit m_next m_beginsAt m_token m_error m_errorAt m_errorPosition m_nested m_codeCount)), ((ad 20), .inl (cI, 16, .inl m_ways_30))] → va_S A s.heap H locs → lv_has ls 3 [] → W p l e ({ frames := 0, cells := 0, slots := 0, locals := 0 }) s m ([.ref (ad 0), .int v1] : List Value).toArray below meth c H locs 0 0 (MQ below (gQ dC dI none A [(ad 0, .inr (10, oM ad m_undoCount m_thrown m_hasSnapshot a_m_fam m_rows m_lineLength m_formattedLength m_bufferLength m_limit m_next m_beginsAt m_token m_error m_errorAt m_errorPosition m_nested m_codeCount)), ((ad 20), .inl (cI, 16, .inl m_ways_9))]) ([.ref (ad 0), .int v1] : List Value).toArray s 0 0 A) (F0 m 30 ls []) := by
    intro m_ways_30 H locs ls hf hP hD hS hl
    rw [p10_beginWays_J30] at hf
    cases hf
    exact g_vret S hr hlocks hP hD hS dX10_beginWays_30
  refine lv_iconst (v := 0) hx hb dX10_beginWays_0 (by decide) ?_
  refine lv_istore_n (lv' := [(2, .int (0 : Int32)), (0, .ref (ad 0)), (1, .int v1)]) hx hb dX10_beginWays_1 rfl hl (by decide) rfl (fun ls hl => ?_)
  have K2 : ∀ (n2 : Nat) (v2_2 : Int32) (m_ways_2 : Nat → Int32) (ex2 : (Nat → Int32)) (H : Heap) (locs : List Loc) (ls : Array Slot), p10_beginWays_L2 v1 n2 v2_2 m_ways_2 = some ex2 → (fun m_ways_x2 => p10_beginWays_J30 m_ways_x2) ex2 = some m_ways_9 → va_P (dC, dI) vwCl [(ad 0, .inr (10, oM ad m_undoCount m_thrown m_hasSnapshot a_m_fam m_rows m_lineLength m_formattedLength m_bufferLength m_limit m_next m_beginsAt m_token m_error m_errorAt m_errorPosition m_nested m_codeCount)), ((ad 20), .inl (cI, 16, .inl m_ways_2))] H → va_D A [(ad 0, .inr (10, oM ad m_undoCount m_thrown m_hasSnapshot a_m_fam m_rows m_lineLength m_formattedLength m_bufferLength m_limit m_next m_beginsAt m_token m_error m_errorAt m_errorPosition m_nested m_codeCount)), ((ad 20), .inl (cI, 16, .inl m_ways_2))] → va_S A s.heap H locs → lv_has ls 3 [(0, .ref (ad 0)), (1, .int v1), (2, .int v2_2)] → W p l e ({ frames := 0, cells := 0, slots := 0, locals := 0 }) s m ([.ref (ad 0), .int v1] : List Value).toArray below meth c H locs 0 0 (MQ below (gQ dC dI none A [(ad 0, .inr (10, oM ad m_undoCount m_thrown m_hasSnapshot a_m_fam m_rows m_lineLength m_formattedLength m_bufferLength m_limit m_next m_beginsAt m_token m_error m_errorAt m_errorPosition m_nested m_codeCount)), ((ad 20), .inl (cI, 16, .inl m_ways_9))]) ([.ref (ad 0), .int v1] : List Value).toArray s 0 0 A) (F0 m 2 ls []) := by
    intro n2
    induction n2 with
    | zero => intro v2_2 m_ways_2 ex2 H locs ls hf; rw [p10_beginWays_L2] at hf; cases hf
    | succ n2 ih2 =>
      intro v2_2 m_ways_2 ex2 H locs ls hf hk2 hP hD hS hl
      rw [p10_beginWays_L2, p10_beginWays_L2_B] at hf
      refine lv_iload_n hx hb dX10_beginWays_2 rfl (lv_at hl 2 rfl) ?_
      refine lv_bipush (v := 16) hx hb dX10_beginWays_3 (by decide) ?_
      refine lv_icmp_ge (tgt := 30) hx hb dX10_beginWays_5 (by decide) (fun h9 => ?_) (fun h9 => ?_)
      · have hf := itt h9 hf
        cases hf
        have hf := hk2
        exact J30 m_ways_2 H locs ls hf hP hD hS (lv_sub hl [] rfl)
      · have hf := itf h9 hf
        refine lv_aload_n hx hb dX10_beginWays_8 rfl (lv_at hl 0 rfl) ?_
        refine va_get (D := (dC, dI)) (ci := 10) (v := .ref (ad 20)) (C := RX10) (T := TX10) (N := 37) hx hb htg inX10 hown hE.1 hP 0 rfl rfl 19 (by decide) (htg _ tw1401) (fun _ h9 => h9) rfl dX10_beginWays_9 ?_
        refine lv_iload_n hx hb dX10_beginWays_12 rfl (lv_at hl 2 rfl) ?_
        refine lv_iload_n hx hb dX10_beginWays_13 rfl (lv_at hl 2 rfl) ?_
        refine lv_iload_n hx hb dX10_beginWays_14 rfl (lv_at hl 1 rfl) ?_
        refine lv_icmp_ne (tgt := 22) hx hb dX10_beginWays_15 (by decide) (fun h9 => ?_) (fun h9 => ?_)
        · have hf := itf h9 hf
          refine lv_iconst (v := 0) hx hb dX10_beginWays_22 (by decide) ?_
          obtain ⟨h9, hf⟩ := gd_s hf
          refine va_iast hx hb hE.1 hP hD hS 1 0 rfl rfl h9 dX10_beginWays_23 (fun H locs hP hD hS => ?_)
          obtain ⟨g23, h9⟩ : ∃ z, z = (upd m_ways_2 v2_2.toNatClampNeg (0 : Int32)) := ⟨_, rfl⟩
          have hf := lb_e h9 hf
          have hP : va_P (dC, dI) vwCl [(ad 0, .inr (10, oM ad m_undoCount m_thrown m_hasSnapshot a_m_fam m_rows m_lineLength m_formattedLength m_bufferLength m_limit m_next m_beginsAt m_token m_error m_errorAt m_errorPosition m_nested m_codeCount)), ((ad 20), .inl (cI, 16, .inl g23))] H := by rw [h9]; exact hP
          have hD : va_D A [(ad 0, .inr (10, oM ad m_undoCount m_thrown m_hasSnapshot a_m_fam m_rows m_lineLength m_formattedLength m_bufferLength m_limit m_next m_beginsAt m_token m_error m_errorAt m_errorPosition m_nested m_codeCount)), ((ad 20), .inl (cI, 16, .inl g23))] := by rw [h9]; exact hD
          obtain ⟨t24, h9⟩ : ∃ z : Int32, z = (v2_2 + (1 : Int32)) := ⟨_, rfl⟩
          have hf := lb_e h9 hf
          refine lv_iinc (v := t24) (lv' := [(2, .int t24), (0, .ref (ad 0)), (1, .int v1)]) hx hb dX10_beginWays_24 hl (k := 2) rfl (by rw [h9]; rfl) (by decide) rfl (fun ls hl => ?_)
          refine lv_goto (tgt := 2) hx hb dX10_beginWays_27 (by decide) ?_
          exact ih2 t24 g23 ex2 H locs ls hf hk2 hP hD hS (lv_sub hl [1, 2, 0] rfl)
        · have hf := itt h9 hf
          refine lv_iconst (v := 1) hx hb dX10_beginWays_18 (by decide) ?_
          refine lv_goto (tgt := 23) hx hb dX10_beginWays_19 (by decide) ?_
          obtain ⟨h9, hf⟩ := gd_s hf
          refine va_iast hx hb hE.1 hP hD hS 1 0 rfl rfl h9 dX10_beginWays_23 (fun H locs hP hD hS => ?_)
          obtain ⟨g23, h9⟩ : ∃ z, z = (upd m_ways_2 v2_2.toNatClampNeg (1 : Int32)) := ⟨_, rfl⟩
          have hf := lb_e h9 hf
          have hP : va_P (dC, dI) vwCl [(ad 0, .inr (10, oM ad m_undoCount m_thrown m_hasSnapshot a_m_fam m_rows m_lineLength m_formattedLength m_bufferLength m_limit m_next m_beginsAt m_token m_error m_errorAt m_errorPosition m_nested m_codeCount)), ((ad 20), .inl (cI, 16, .inl g23))] H := by rw [h9]; exact hP
          have hD : va_D A [(ad 0, .inr (10, oM ad m_undoCount m_thrown m_hasSnapshot a_m_fam m_rows m_lineLength m_formattedLength m_bufferLength m_limit m_next m_beginsAt m_token m_error m_errorAt m_errorPosition m_nested m_codeCount)), ((ad 20), .inl (cI, 16, .inl g23))] := by rw [h9]; exact hD
          obtain ⟨t24, h9⟩ : ∃ z : Int32, z = (v2_2 + (1 : Int32)) := ⟨_, rfl⟩
          have hf := lb_e h9 hf
          refine lv_iinc (v := t24) (lv' := [(2, .int t24), (0, .ref (ad 0)), (1, .int v1)]) hx hb dX10_beginWays_24 hl (k := 2) rfl (by rw [h9]; rfl) (by decide) rfl (fun ls hl => ?_)
          refine lv_goto (tgt := 2) hx hb dX10_beginWays_27 (by decide) ?_
          exact ih2 t24 g23 ex2 H locs ls hf hk2 hP hD hS (lv_sub hl [1, 2, 0] rfl)
  obtain ⟨ex, h9, hf⟩ := ob_s hf
  exact K2 FU (0 : Int32) m_ways ex H locs ls h9 hf hP hD hS (lv_sub hl [1, 2, 0] rfl)
set_option maxHeartbeats 4000000 in
set_option maxRecDepth 100000 in
theorem c_X10_stepUp (ad : Nat → Nat) (a_m_fam : Nat) (m_undoCount : Int32) (m_thrown : Int32) (m_hasSnapshot : Bool) (m_rows : Int32) (m_lineLength : Int32) (m_formattedLength : Int32) (m_bufferLength : Int32) (m_limit : Int32) (m_next : Int32) (m_beginsAt : Int32) (m_token : Int32) (m_error : Int32) (m_errorAt : Int32) (m_errorPosition : Int32) (m_nested : Int32) (m_codeCount : Int32) (m_fam : Nat → Int64) (m_further : Nat → Int32) (m_ways : Nat → Int32) (m_further_9 : Nat → Int32) (m_ways_9 : Nat → Int32) (hf : p10_stepUp m_fam m_further m_ways = some (m_further_9, m_ways_9)) : gM l dC dI cI cJ cZ yX10_stepUp cX10_stepUp 3 none (2) (43) [.ref (ad 0)] [(ad 0, .inr (10, oM ad m_undoCount m_thrown m_hasSnapshot a_m_fam m_rows m_lineLength m_formattedLength m_bufferLength m_limit m_next m_beginsAt m_token m_error m_errorAt m_errorPosition m_nested m_codeCount)), (a_m_fam, .inl (cJ, 130, .inr (.inl m_fam))), ((ad 21), .inl (cI, 16, .inl m_further)), ((ad 20), .inl (cI, 16, .inl m_ways))] [(ad 0, .inr (10, oM ad m_undoCount m_thrown m_hasSnapshot a_m_fam m_rows m_lineLength m_formattedLength m_bufferLength m_limit m_next m_beginsAt m_token m_error m_errorAt m_errorPosition m_nested m_codeCount)), (a_m_fam, .inl (cJ, 130, .inr (.inl m_fam))), ((ad 21), .inl (cI, 16, .inl m_further_9)), ((ad 20), .inl (cI, 16, .inl m_ways_9))] none := by
  refine g_start (own := RX10) (by decide +kernel) rfl (Nat.le_of_ble_eq_true rfl) ?_
  intro p e s m below meth c A ls S hr hlocks hE hP hD hS hA hl hin
  have hx := S.1
  have hb := S.2.1
  have hml := S.2.2.1
  have hown := S.2.2.2.1
  have htg : ∀ z ∈ gw, z.before ([.ref (ad 0)] : List Value).toArray s = true := fun w h => S.2.2.2.2 w (List.mem_cons_of_mem _ h)
  have hl : lv_has ls 3 [(0, .ref (ad 0))] := hl
  have hS0 := hS
  obtain ⟨H, hH⟩ : ∃ H, H = s.heap := ⟨_, rfl⟩
  obtain ⟨locs, hlc⟩ : ∃ locs : List Loc, locs = [] := ⟨_, rfl⟩
  have hS : va_S A s.heap H locs := by rw [hH, hlc]; exact hS0
  have hP : va_P (dC, dI) vwCl [(ad 0, .inr (10, oM ad m_undoCount m_thrown m_hasSnapshot a_m_fam m_rows m_lineLength m_formattedLength m_bufferLength m_limit m_next m_beginsAt m_token m_error m_errorAt m_errorPosition m_nested m_codeCount)), (a_m_fam, .inl (cJ, 130, .inr (.inl m_fam))), ((ad 21), .inl (cI, 16, .inl m_further)), ((ad 20), .inl (cI, 16, .inl m_ways))] H := by rw [hH]; exact hP
  suffices hgo : W p l e ({ frames := 2, cells := 0, slots := 0, locals := 43 }) s m ([.ref (ad 0)] : List Value).toArray below meth c H locs 0 0 (MQ below (gQ dC dI none A [(ad 0, .inr (10, oM ad m_undoCount m_thrown m_hasSnapshot a_m_fam m_rows m_lineLength m_formattedLength m_bufferLength m_limit m_next m_beginsAt m_token m_error m_errorAt m_errorPosition m_nested m_codeCount)), (a_m_fam, .inl (cJ, 130, .inr (.inl m_fam))), ((ad 21), .inl (cI, 16, .inl m_further_9)), ((ad 20), .inl (cI, 16, .inl m_ways_9))]) ([.ref (ad 0)] : List Value).toArray s 0 0 A) (F0 m 0 ls []) by rw [hH, hlc] at hgo; exact hgo
  rw [p10_stepUp] at hf
  have J114 : ∀ (m_further_114 : Nat → Int32) (m_ways_114 : Nat → Int32) (H : Heap) (locs : List Loc) (ls : Array Slot), p10_stepUp_J114 m_further_114 m_ways_114 = some (m_further_9, m_ways_9) → va_P (dC, dI) vwCl [(ad 0, .inr (10, oM ad m_undoCount m_thrown m_hasSnapshot a_m_fam m_rows m_lineLength m_formattedLength m_bufferLength m_limit m_next m_beginsAt m_token m_error m_errorAt m_errorPosition m_nested m_codeCount)), (a_m_fam, .inl (cJ, 130, .inr (.inl m_fam))), ((ad 21), .inl (cI, 16, .inl m_further_114)), ((ad 20), .inl (cI, 16, .inl m_ways_114))] H → va_D A [(ad 0, .inr (10, oM ad m_undoCount m_thrown m_hasSnapshot a_m_fam m_rows m_lineLength m_formattedLength m_bufferLength m_limit m_next m_beginsAt m_token m_error m_errorAt m_errorPosition m_nested m_codeCount)), (a_m_fam, .inl (cJ, 130, .inr (.inl m_fam))), ((ad 21), .inl (cI, 16, .inl m_further_114)), ((ad 20), .inl (cI, 16, .inl m_ways_114))] → va_S A s.heap H locs → lv_has ls 3 [] → W p l e ({ frames := 2, cells := 0, slots := 0, locals := 43 }) s m ([.ref (ad 0)] : List Value).toArray below meth c H locs 0 0 (MQ below (gQ dC dI none A [(ad 0, .inr (10, oM ad m_undoCount m_thrown m_hasSnapshot a_m_fam m_rows m_lineLength m_formattedLength m_bufferLength m_limit m_next m_beginsAt m_token m_error m_errorAt m_errorPosition m_nested m_codeCount)), (a_m_fam, .inl (cJ, 130, .inr (.inl m_fam))), ((ad 21), .inl (cI, 16, .inl m_further_9)), ((ad 20), .inl (cI, 16, .inl m_ways_9))]) ([.ref (ad 0)] : List Value).toArray s 0 0 A) (F0 m 114 ls []) := by
    intro m_further_114 m_ways_114 H locs ls hf hP hD hS hl
    rw [p10_stepUp_J114] at hf
    cases hf
    exact g_vret S hr hlocks hP hD hS dX10_stepUp_114
  have J88 : ∀ (m_further_88 : Nat → Int32) (H : Heap) (locs : List Loc) (ls : Array Slot), p10_stepUp_J88 m_ways m_further_88 = some (m_further_9, m_ways_9) → va_P (dC, dI) vwCl [(ad 0, .inr (10, oM ad m_undoCount m_thrown m_hasSnapshot a_m_fam m_rows m_lineLength m_formattedLength m_bufferLength m_limit m_next m_beginsAt m_token m_error m_errorAt m_errorPosition m_nested m_codeCount)), (a_m_fam, .inl (cJ, 130, .inr (.inl m_fam))), ((ad 21), .inl (cI, 16, .inl m_further_88)), ((ad 20), .inl (cI, 16, .inl m_ways))] H → va_D A [(ad 0, .inr (10, oM ad m_undoCount m_thrown m_hasSnapshot a_m_fam m_rows m_lineLength m_formattedLength m_bufferLength m_limit m_next m_beginsAt m_token m_error m_errorAt m_errorPosition m_nested m_codeCount)), (a_m_fam, .inl (cJ, 130, .inr (.inl m_fam))), ((ad 21), .inl (cI, 16, .inl m_further_88)), ((ad 20), .inl (cI, 16, .inl m_ways))] → va_S A s.heap H locs → lv_has ls 3 [(0, .ref (ad 0))] → W p l e ({ frames := 2, cells := 0, slots := 0, locals := 43 }) s m ([.ref (ad 0)] : List Value).toArray below meth c H locs 0 0 (MQ below (gQ dC dI none A [(ad 0, .inr (10, oM ad m_undoCount m_thrown m_hasSnapshot a_m_fam m_rows m_lineLength m_formattedLength m_bufferLength m_limit m_next m_beginsAt m_token m_error m_errorAt m_errorPosition m_nested m_codeCount)), (a_m_fam, .inl (cJ, 130, .inr (.inl m_fam))), ((ad 21), .inl (cI, 16, .inl m_further_9)), ((ad 20), .inl (cI, 16, .inl m_ways_9))]) ([.ref (ad 0)] : List Value).toArray s 0 0 A) (F0 m 88 ls []) := by
    intro m_further_88 H locs ls hf hP hD hS hl
    rw [p10_stepUp_J88] at hf
    refine lv_iconst (v := 0) hx hb dX10_stepUp_88 (by decide) ?_
    refine lv_istore_n (lv' := [(1, .int (0 : Int32)), (0, .ref (ad 0))]) hx hb dX10_stepUp_89 rfl hl (by decide) rfl (fun ls hl => ?_)
    have K90 : ∀ (n90 : Nat) (v1_90 : Int32) (m_ways_90 : Nat → Int32) (ex90 : (Nat → Int32)) (H : Heap) (locs : List Loc) (ls : Array Slot), p10_stepUp_L90 m_further_88 n90 v1_90 m_ways_90 = some ex90 → (fun m_ways_x90 => p10_stepUp_J114 m_further_88 m_ways_x90) ex90 = some (m_further_9, m_ways_9) → va_P (dC, dI) vwCl [(ad 0, .inr (10, oM ad m_undoCount m_thrown m_hasSnapshot a_m_fam m_rows m_lineLength m_formattedLength m_bufferLength m_limit m_next m_beginsAt m_token m_error m_errorAt m_errorPosition m_nested m_codeCount)), (a_m_fam, .inl (cJ, 130, .inr (.inl m_fam))), ((ad 21), .inl (cI, 16, .inl m_further_88)), ((ad 20), .inl (cI, 16, .inl m_ways_90))] H → va_D A [(ad 0, .inr (10, oM ad m_undoCount m_thrown m_hasSnapshot a_m_fam m_rows m_lineLength m_formattedLength m_bufferLength m_limit m_next m_beginsAt m_token m_error m_errorAt m_errorPosition m_nested m_codeCount)), (a_m_fam, .inl (cJ, 130, .inr (.inl m_fam))), ((ad 21), .inl (cI, 16, .inl m_further_88)), ((ad 20), .inl (cI, 16, .inl m_ways_90))] → va_S A s.heap H locs → lv_has ls 3 [(0, .ref (ad 0)), (1, .int v1_90)] → W p l e ({ frames := 2, cells := 0, slots := 0, locals := 43 }) s m ([.ref (ad 0)] : List Value).toArray below meth c H locs 0 0 (MQ below (gQ dC dI none A [(ad 0, .inr (10, oM ad m_undoCount m_thrown m_hasSnapshot a_m_fam m_rows m_lineLength m_formattedLength m_bufferLength m_limit m_next m_beginsAt m_token m_error m_errorAt m_errorPosition m_nested m_codeCount)), (a_m_fam, .inl (cJ, 130, .inr (.inl m_fam))), ((ad 21), .inl (cI, 16, .inl m_further_9)), ((ad 20), .inl (cI, 16, .inl m_ways_9))]) ([.ref (ad 0)] : List Value).toArray s 0 0 A) (F0 m 90 ls []) := by
      intro n90
      induction n90 with
      | zero => intro v1_90 m_ways_90 ex90 H locs ls hf; rw [p10_stepUp_L90] at hf; cases hf
      | succ n90 ih90 =>
        intro v1_90 m_ways_90 ex90 H locs ls hf hk90 hP hD hS hl
        rw [p10_stepUp_L90, p10_stepUp_L90_B] at hf
        refine lv_iload_n hx hb dX10_stepUp_90 rfl (lv_at hl 1 rfl) ?_
        refine lv_bipush (v := 16) hx hb dX10_stepUp_91 (by decide) ?_
        refine lv_icmp_ge (tgt := 114) hx hb dX10_stepUp_93 (by decide) (fun h9 => ?_) (fun h9 => ?_)
        · have hf := itt h9 hf
          cases hf
          have hf := hk90
          exact J114 m_further_88 m_ways_90 H locs ls hf hP hD hS (lv_sub hl [] rfl)
        · have hf := itf h9 hf
          refine lv_aload_n hx hb dX10_stepUp_96 rfl (lv_at hl 0 rfl) ?_
          refine va_get (D := (dC, dI)) (ci := 10) (v := .ref (ad 20)) (C := RX10) (T := TX10) (N := 37) hx hb htg inX10 hown hE.1 hP 0 rfl rfl 19 (by decide) (htg _ tw1401) (fun _ h9 => h9) rfl dX10_stepUp_97 ?_
          refine lv_iload_n hx hb dX10_stepUp_100 rfl (lv_at hl 1 rfl) ?_
          refine lv_aload_n hx hb dX10_stepUp_101 rfl (lv_at hl 0 rfl) ?_
          refine va_get (D := (dC, dI)) (ci := 10) (v := .ref (ad 21)) (C := RX10) (T := TX10) (N := 37) hx hb htg inX10 hown hE.1 hP 0 rfl rfl 20 (by decide) (htg _ tw1402) (fun _ h9 => h9) rfl dX10_stepUp_102 ?_
          refine lv_iload_n hx hb dX10_stepUp_105 rfl (lv_at hl 1 rfl) ?_
          obtain ⟨h9, hf⟩ := gd_s hf
          refine va_iald hx hb hE.1 hP 2 0 rfl rfl h9 dX10_stepUp_106 ?_
          obtain ⟨h9, hf⟩ := gd_s hf
          refine va_iast hx hb hE.1 hP hD hS 3 0 rfl rfl h9 dX10_stepUp_107 (fun H locs hP hD hS => ?_)
          obtain ⟨g107, h9⟩ : ∃ z, z = (upd m_ways_90 v1_90.toNatClampNeg (m_further_88 v1_90.toNatClampNeg)) := ⟨_, rfl⟩
          have hf := lb_e h9 hf
          have hP : va_P (dC, dI) vwCl [(ad 0, .inr (10, oM ad m_undoCount m_thrown m_hasSnapshot a_m_fam m_rows m_lineLength m_formattedLength m_bufferLength m_limit m_next m_beginsAt m_token m_error m_errorAt m_errorPosition m_nested m_codeCount)), (a_m_fam, .inl (cJ, 130, .inr (.inl m_fam))), ((ad 21), .inl (cI, 16, .inl m_further_88)), ((ad 20), .inl (cI, 16, .inl g107))] H := by rw [h9]; exact hP
          have hD : va_D A [(ad 0, .inr (10, oM ad m_undoCount m_thrown m_hasSnapshot a_m_fam m_rows m_lineLength m_formattedLength m_bufferLength m_limit m_next m_beginsAt m_token m_error m_errorAt m_errorPosition m_nested m_codeCount)), (a_m_fam, .inl (cJ, 130, .inr (.inl m_fam))), ((ad 21), .inl (cI, 16, .inl m_further_88)), ((ad 20), .inl (cI, 16, .inl g107))] := by rw [h9]; exact hD
          obtain ⟨t108, h9⟩ : ∃ z : Int32, z = (v1_90 + (1 : Int32)) := ⟨_, rfl⟩
          have hf := lb_e h9 hf
          refine lv_iinc (v := t108) (lv' := [(1, .int t108), (0, .ref (ad 0))]) hx hb dX10_stepUp_108 hl (k := 1) rfl (by rw [h9]; rfl) (by decide) rfl (fun ls hl => ?_)
          refine lv_goto (tgt := 90) hx hb dX10_stepUp_111 (by decide) ?_
          exact ih90 t108 g107 ex90 H locs ls hf hk90 hP hD hS (lv_sub hl [1, 0] rfl)
    obtain ⟨ex, h9, hf⟩ := ob_s hf
    exact K90 FU (0 : Int32) m_ways ex H locs ls h9 hf hP hD hS (lv_sub hl [1, 0] rfl)
  have J21 : ∀ (m_further_21 : Nat → Int32) (H : Heap) (locs : List Loc) (ls : Array Slot), p10_stepUp_J21 m_fam m_ways m_further_21 = some (m_further_9, m_ways_9) → va_P (dC, dI) vwCl [(ad 0, .inr (10, oM ad m_undoCount m_thrown m_hasSnapshot a_m_fam m_rows m_lineLength m_formattedLength m_bufferLength m_limit m_next m_beginsAt m_token m_error m_errorAt m_errorPosition m_nested m_codeCount)), (a_m_fam, .inl (cJ, 130, .inr (.inl m_fam))), ((ad 21), .inl (cI, 16, .inl m_further_21)), ((ad 20), .inl (cI, 16, .inl m_ways))] H → va_D A [(ad 0, .inr (10, oM ad m_undoCount m_thrown m_hasSnapshot a_m_fam m_rows m_lineLength m_formattedLength m_bufferLength m_limit m_next m_beginsAt m_token m_error m_errorAt m_errorPosition m_nested m_codeCount)), (a_m_fam, .inl (cJ, 130, .inr (.inl m_fam))), ((ad 21), .inl (cI, 16, .inl m_further_21)), ((ad 20), .inl (cI, 16, .inl m_ways))] → va_S A s.heap H locs → lv_has ls 3 [(0, .ref (ad 0))] → W p l e ({ frames := 2, cells := 0, slots := 0, locals := 43 }) s m ([.ref (ad 0)] : List Value).toArray below meth c H locs 0 0 (MQ below (gQ dC dI none A [(ad 0, .inr (10, oM ad m_undoCount m_thrown m_hasSnapshot a_m_fam m_rows m_lineLength m_formattedLength m_bufferLength m_limit m_next m_beginsAt m_token m_error m_errorAt m_errorPosition m_nested m_codeCount)), (a_m_fam, .inl (cJ, 130, .inr (.inl m_fam))), ((ad 21), .inl (cI, 16, .inl m_further_9)), ((ad 20), .inl (cI, 16, .inl m_ways_9))]) ([.ref (ad 0)] : List Value).toArray s 0 0 A) (F0 m 21 ls []) := by
    intro m_further_21 H locs ls hf hP hD hS hl
    rw [p10_stepUp_J21] at hf
    refine lv_iconst (v := 0) hx hb dX10_stepUp_21 (by decide) ?_
    refine lv_istore_n (lv' := [(1, .int (0 : Int32)), (0, .ref (ad 0))]) hx hb dX10_stepUp_22 rfl hl (by decide) rfl (fun ls hl => ?_)
    have K23 : ∀ (n23 : Nat) (v1_23 : Int32) (m_further_23 : Nat → Int32) (ex23 : (Nat → Int32)) (H : Heap) (locs : List Loc) (ls : Array Slot), p10_stepUp_L23 m_fam m_ways n23 v1_23 m_further_23 = some ex23 → (fun m_further_x23 => p10_stepUp_J88 m_ways m_further_x23) ex23 = some (m_further_9, m_ways_9) → va_P (dC, dI) vwCl [(ad 0, .inr (10, oM ad m_undoCount m_thrown m_hasSnapshot a_m_fam m_rows m_lineLength m_formattedLength m_bufferLength m_limit m_next m_beginsAt m_token m_error m_errorAt m_errorPosition m_nested m_codeCount)), (a_m_fam, .inl (cJ, 130, .inr (.inl m_fam))), ((ad 21), .inl (cI, 16, .inl m_further_23)), ((ad 20), .inl (cI, 16, .inl m_ways))] H → va_D A [(ad 0, .inr (10, oM ad m_undoCount m_thrown m_hasSnapshot a_m_fam m_rows m_lineLength m_formattedLength m_bufferLength m_limit m_next m_beginsAt m_token m_error m_errorAt m_errorPosition m_nested m_codeCount)), (a_m_fam, .inl (cJ, 130, .inr (.inl m_fam))), ((ad 21), .inl (cI, 16, .inl m_further_23)), ((ad 20), .inl (cI, 16, .inl m_ways))] → va_S A s.heap H locs → lv_has ls 3 [(0, .ref (ad 0)), (1, .int v1_23)] → W p l e ({ frames := 2, cells := 0, slots := 0, locals := 43 }) s m ([.ref (ad 0)] : List Value).toArray below meth c H locs 0 0 (MQ below (gQ dC dI none A [(ad 0, .inr (10, oM ad m_undoCount m_thrown m_hasSnapshot a_m_fam m_rows m_lineLength m_formattedLength m_bufferLength m_limit m_next m_beginsAt m_token m_error m_errorAt m_errorPosition m_nested m_codeCount)), (a_m_fam, .inl (cJ, 130, .inr (.inl m_fam))), ((ad 21), .inl (cI, 16, .inl m_further_9)), ((ad 20), .inl (cI, 16, .inl m_ways_9))]) ([.ref (ad 0)] : List Value).toArray s 0 0 A) (F0 m 23 ls []) := by
      intro n23
      induction n23 with
      | zero => intro v1_23 m_further_23 ex23 H locs ls hf; rw [p10_stepUp_L23] at hf; cases hf
      | succ n23 ih23 =>
        intro v1_23 m_further_23 ex23 H locs ls hf hk23 hP hD hS hl
        rw [p10_stepUp_L23, p10_stepUp_L23_B] at hf
        refine lv_iload_n hx hb dX10_stepUp_23 rfl (lv_at hl 1 rfl) ?_
        refine lv_aload_n hx hb dX10_stepUp_24 rfl (lv_at hl 0 rfl) ?_
        obtain ⟨r25, h9, hf⟩ := ob_s hf
        refine gcV (index := 121) S hE (c_X10_persons ad a_m_fam m_undoCount m_thrown m_hasSnapshot m_rows m_lineLength m_formattedLength m_bufferLength m_limit m_next m_beginsAt m_token m_error m_errorAt m_errorPosition m_nested m_codeCount m_fam r25 h9) mX10_persons tw1511 ⟨Nat.le_of_ble_eq_true rfl, Nat.le_of_ble_eq_true rfl⟩ hP hD hS hA ⟨Nat.zero_le _, Nat.zero_le _⟩ 0 10 rfl rfl rfl (wr := [((ad 21), .inl (cI, 16, .inl m_further_23)), ((ad 20), .inl (cI, 16, .inl m_ways))]) [0, 1] [2, 3] rfl rfl rfl rfl (by decide) (As := []) (rest := [.int v1_23]) rfl hl.1 rfl (Nat.le_of_ble_eq_true rfl) dX10_stepUp_25 (fun H locs hP hD hS => ?_)
        refine W.eq (g2 := F0 m 28 ls [.int r25, .int v1_23]) rfl ?_
        have hP : va_P (dC, dI) vwCl [((ad 21), .inl (cI, 16, .inl m_further_23)), ((ad 20), .inl (cI, 16, .inl m_ways)), (ad 0, .inr (10, oM ad m_undoCount m_thrown m_hasSnapshot a_m_fam m_rows m_lineLength m_formattedLength m_bufferLength m_limit m_next m_beginsAt m_token m_error m_errorAt m_errorPosition m_nested m_codeCount)), (a_m_fam, .inl (cJ, 130, .inr (.inl m_fam)))] H := hP
        have hD : va_D A [((ad 21), .inl (cI, 16, .inl m_further_23)), ((ad 20), .inl (cI, 16, .inl m_ways)), (ad 0, .inr (10, oM ad m_undoCount m_thrown m_hasSnapshot a_m_fam m_rows m_lineLength m_formattedLength m_bufferLength m_limit m_next m_beginsAt m_token m_error m_errorAt m_errorPosition m_nested m_codeCount)), (a_m_fam, .inl (cJ, 130, .inr (.inl m_fam)))] := hD
        refine lv_icmp_ge (tgt := 88) hx hb dX10_stepUp_28 (by decide) (fun h9 => ?_) (fun h9 => ?_)
        · have hf := itt h9 hf
          cases hf
          have hf := hk23
          exact J88 m_further_23 H locs ls hf (hP.sub [2, 3, 0, 1] rfl) (hD.sub [2, 3, 0, 1] (by decide) rfl) hS (lv_sub hl [0] rfl)
        · have hf := itf h9 hf
          refine lv_aload_n hx hb dX10_stepUp_31 rfl (lv_at hl 0 rfl) ?_
          refine lv_iload_n hx hb dX10_stepUp_32 rfl (lv_at hl 1 rfl) ?_
          obtain ⟨r33, h9, hf⟩ := ob_s hf
          refine gcV (index := 117) S hE (c_X10_parentsOf ad a_m_fam m_undoCount m_thrown m_hasSnapshot m_rows m_lineLength m_formattedLength m_bufferLength m_limit m_next m_beginsAt m_token m_error m_errorAt m_errorPosition m_nested m_codeCount m_fam v1_23 r33 h9) mX10_parentsOf tw1515 ⟨Nat.le_of_ble_eq_true rfl, Nat.le_of_ble_eq_true rfl⟩ hP hD hS hA ⟨Nat.zero_le _, Nat.zero_le _⟩ 2 10 rfl rfl rfl (wr := [((ad 21), .inl (cI, 16, .inl m_further_23)), ((ad 20), .inl (cI, 16, .inl m_ways))]) [2, 3] [0, 1] rfl rfl rfl rfl (by decide) (As := [.int v1_23]) (rest := []) rfl hl.1 rfl (Nat.le_of_ble_eq_true rfl) dX10_stepUp_33 (fun H locs hP hD hS => ?_)
          refine W.eq (g2 := F0 m 36 ls [.int r33]) rfl ?_
          have hP : va_P (dC, dI) vwCl [((ad 21), .inl (cI, 16, .inl m_further_23)), ((ad 20), .inl (cI, 16, .inl m_ways)), (ad 0, .inr (10, oM ad m_undoCount m_thrown m_hasSnapshot a_m_fam m_rows m_lineLength m_formattedLength m_bufferLength m_limit m_next m_beginsAt m_token m_error m_errorAt m_errorPosition m_nested m_codeCount)), (a_m_fam, .inl (cJ, 130, .inr (.inl m_fam)))] H := hP
          have hD : va_D A [((ad 21), .inl (cI, 16, .inl m_further_23)), ((ad 20), .inl (cI, 16, .inl m_ways)), (ad 0, .inr (10, oM ad m_undoCount m_thrown m_hasSnapshot a_m_fam m_rows m_lineLength m_formattedLength m_bufferLength m_limit m_next m_beginsAt m_token m_error m_errorAt m_errorPosition m_nested m_codeCount)), (a_m_fam, .inl (cJ, 130, .inr (.inl m_fam)))] := hD
          refine lv_istore_n (lv' := [(2, .int r33), (0, .ref (ad 0)), (1, .int v1_23)]) hx hb dX10_stepUp_36 rfl hl (by decide) rfl (fun ls hl => ?_)
          refine lv_iload_n hx hb dX10_stepUp_37 rfl (lv_at hl 0 rfl) ?_
          refine lv_iconst (v := -1) hx hb dX10_stepUp_38 (by decide) ?_
          refine lv_icmp_eq (tgt := 82) hx hb dX10_stepUp_39 (by decide) (fun h9 => ?_) (fun h9 => ?_)
          · have hf := itt h9 hf
            obtain ⟨t82, h9⟩ : ∃ z : Int32, z = (v1_23 + (1 : Int32)) := ⟨_, rfl⟩
            have hf := lb_e h9 hf
            refine lv_iinc (v := t82) (lv' := [(1, .int t82), (2, .int r33), (0, .ref (ad 0))]) hx hb dX10_stepUp_82 hl (k := 2) rfl (by rw [h9]; rfl) (by decide) rfl (fun ls hl => ?_)
            refine lv_goto (tgt := 23) hx hb dX10_stepUp_85 (by decide) ?_
            exact ih23 t82 m_further_23 ex23 H locs ls hf hk23 (hP.sub [2, 3, 0, 1] rfl) (hD.sub [2, 3, 0, 1] (by decide) rfl) hS (lv_sub hl [2, 0] rfl)
          · have hf := itf h9 hf
            refine lv_aload_n hx hb dX10_stepUp_42 rfl (lv_at hl 1 rfl) ?_
            refine va_get (D := (dC, dI)) (ci := 10) (v := .ref (ad 21)) (C := RX10) (T := TX10) (N := 37) hx hb htg inX10 hown hE.1 hP 2 rfl rfl 20 (by decide) (htg _ tw1402) (fun _ h9 => h9) rfl dX10_stepUp_43 ?_
            refine lv_aload_n hx hb dX10_stepUp_46 rfl (lv_at hl 1 rfl) ?_
            refine lv_iload_n hx hb dX10_stepUp_47 rfl (lv_at hl 0 rfl) ?_
            refine lv_iconst (v := 0) hx hb dX10_stepUp_48 (by decide) ?_
            obtain ⟨r49, h9, hf⟩ := ob_s hf
            refine gcV (index := 102) S hE (c_X10_partner ad a_m_fam m_undoCount m_thrown m_hasSnapshot m_rows m_lineLength m_formattedLength m_bufferLength m_limit m_next m_beginsAt m_token m_error m_errorAt m_errorPosition m_nested m_codeCount m_fam r33 (0 : Int32) r49 h9) mX10_partner tw1527 ⟨Nat.le_of_ble_eq_true rfl, Nat.le_of_ble_eq_true rfl⟩ hP hD hS hA ⟨Nat.zero_le _, Nat.zero_le _⟩ 2 10 rfl rfl rfl (wr := [((ad 21), .inl (cI, 16, .inl m_further_23)), ((ad 20), .inl (cI, 16, .inl m_ways))]) [2, 3] [0, 1] rfl rfl rfl rfl (by decide) (As := [.int r33, .int (0 : Int32)]) (rest := [.ref (ad 21)]) rfl hl.1 rfl (Nat.le_of_ble_eq_true rfl) dX10_stepUp_49 (fun H locs hP hD hS => ?_)
            refine W.eq (g2 := F0 m 52 ls [.int r49, .ref (ad 21)]) rfl ?_
            have hP : va_P (dC, dI) vwCl [((ad 21), .inl (cI, 16, .inl m_further_23)), ((ad 20), .inl (cI, 16, .inl m_ways)), (ad 0, .inr (10, oM ad m_undoCount m_thrown m_hasSnapshot a_m_fam m_rows m_lineLength m_formattedLength m_bufferLength m_limit m_next m_beginsAt m_token m_error m_errorAt m_errorPosition m_nested m_codeCount)), (a_m_fam, .inl (cJ, 130, .inr (.inl m_fam)))] H := hP
            have hD : va_D A [((ad 21), .inl (cI, 16, .inl m_further_23)), ((ad 20), .inl (cI, 16, .inl m_ways)), (ad 0, .inr (10, oM ad m_undoCount m_thrown m_hasSnapshot a_m_fam m_rows m_lineLength m_formattedLength m_bufferLength m_limit m_next m_beginsAt m_token m_error m_errorAt m_errorPosition m_nested m_codeCount)), (a_m_fam, .inl (cJ, 130, .inr (.inl m_fam)))] := hD
            refine lv_dup2_11 hx hb dX10_stepUp_52 rfl rfl ?_
            obtain ⟨h9, hf⟩ := gd_s hf
            refine va_iald hx hb hE.1 hP 0 0 rfl rfl h9 dX10_stepUp_53 ?_
            refine lv_aload_n hx hb dX10_stepUp_54 rfl (lv_at hl 1 rfl) ?_
            refine va_get (D := (dC, dI)) (ci := 10) (v := .ref (ad 20)) (C := RX10) (T := TX10) (N := 37) hx hb htg inX10 hown hE.1 hP 2 rfl rfl 19 (by decide) (htg _ tw1401) (fun _ h9 => h9) rfl dX10_stepUp_55 ?_
            refine lv_iload_n hx hb dX10_stepUp_58 rfl (lv_at hl 2 rfl) ?_
            obtain ⟨h9, hf⟩ := gd_s hf
            refine va_iald hx hb hE.1 hP 1 0 rfl rfl h9 dX10_stepUp_59 ?_
            refine lv_iadd hx hb dX10_stepUp_60 ?_
            obtain ⟨h9, hf⟩ := gd_s hf
            refine va_iast hx hb hE.1 hP hD hS 0 0 rfl rfl h9 dX10_stepUp_61 (fun H locs hP hD hS => ?_)
            obtain ⟨g61, h9⟩ : ∃ z, z = (upd m_further_23 r49.toNatClampNeg ((m_further_23 r49.toNatClampNeg) + (m_ways v1_23.toNatClampNeg))) := ⟨_, rfl⟩
            have hf := lb_e h9 hf
            have hP : va_P (dC, dI) vwCl [((ad 21), .inl (cI, 16, .inl g61)), ((ad 20), .inl (cI, 16, .inl m_ways)), (ad 0, .inr (10, oM ad m_undoCount m_thrown m_hasSnapshot a_m_fam m_rows m_lineLength m_formattedLength m_bufferLength m_limit m_next m_beginsAt m_token m_error m_errorAt m_errorPosition m_nested m_codeCount)), (a_m_fam, .inl (cJ, 130, .inr (.inl m_fam)))] H := by rw [h9]; exact hP
            have hD : va_D A [((ad 21), .inl (cI, 16, .inl g61)), ((ad 20), .inl (cI, 16, .inl m_ways)), (ad 0, .inr (10, oM ad m_undoCount m_thrown m_hasSnapshot a_m_fam m_rows m_lineLength m_formattedLength m_bufferLength m_limit m_next m_beginsAt m_token m_error m_errorAt m_errorPosition m_nested m_codeCount)), (a_m_fam, .inl (cJ, 130, .inr (.inl m_fam)))] := by rw [h9]; exact hD
            refine lv_aload_n hx hb dX10_stepUp_62 rfl (lv_at hl 1 rfl) ?_
            refine va_get (D := (dC, dI)) (ci := 10) (v := .ref (ad 21)) (C := RX10) (T := TX10) (N := 37) hx hb htg inX10 hown hE.1 hP 2 rfl rfl 20 (by decide) (htg _ tw1402) (fun _ h9 => h9) rfl dX10_stepUp_63 ?_
            refine lv_aload_n hx hb dX10_stepUp_66 rfl (lv_at hl 1 rfl) ?_
            refine lv_iload_n hx hb dX10_stepUp_67 rfl (lv_at hl 0 rfl) ?_
            refine lv_iconst (v := 1) hx hb dX10_stepUp_68 (by decide) ?_
            obtain ⟨r69, h9, hf⟩ := ob_s hf
            refine gcV (index := 102) S hE (c_X10_partner ad a_m_fam m_undoCount m_thrown m_hasSnapshot m_rows m_lineLength m_formattedLength m_bufferLength m_limit m_next m_beginsAt m_token m_error m_errorAt m_errorPosition m_nested m_codeCount m_fam r33 (1 : Int32) r69 h9) mX10_partner tw1527 ⟨Nat.le_of_ble_eq_true rfl, Nat.le_of_ble_eq_true rfl⟩ hP hD hS hA ⟨Nat.zero_le _, Nat.zero_le _⟩ 2 10 rfl rfl rfl (wr := [((ad 21), .inl (cI, 16, .inl g61)), ((ad 20), .inl (cI, 16, .inl m_ways))]) [2, 3] [0, 1] rfl rfl rfl rfl (by decide) (As := [.int r33, .int (1 : Int32)]) (rest := [.ref (ad 21)]) rfl hl.1 rfl (Nat.le_of_ble_eq_true rfl) dX10_stepUp_69 (fun H locs hP hD hS => ?_)
            refine W.eq (g2 := F0 m 72 ls [.int r69, .ref (ad 21)]) rfl ?_
            have hP : va_P (dC, dI) vwCl [((ad 21), .inl (cI, 16, .inl g61)), ((ad 20), .inl (cI, 16, .inl m_ways)), (ad 0, .inr (10, oM ad m_undoCount m_thrown m_hasSnapshot a_m_fam m_rows m_lineLength m_formattedLength m_bufferLength m_limit m_next m_beginsAt m_token m_error m_errorAt m_errorPosition m_nested m_codeCount)), (a_m_fam, .inl (cJ, 130, .inr (.inl m_fam)))] H := hP
            have hD : va_D A [((ad 21), .inl (cI, 16, .inl g61)), ((ad 20), .inl (cI, 16, .inl m_ways)), (ad 0, .inr (10, oM ad m_undoCount m_thrown m_hasSnapshot a_m_fam m_rows m_lineLength m_formattedLength m_bufferLength m_limit m_next m_beginsAt m_token m_error m_errorAt m_errorPosition m_nested m_codeCount)), (a_m_fam, .inl (cJ, 130, .inr (.inl m_fam)))] := hD
            refine lv_dup2_11 hx hb dX10_stepUp_72 rfl rfl ?_
            obtain ⟨h9, hf⟩ := gd_s hf
            refine va_iald hx hb hE.1 hP 0 0 rfl rfl h9 dX10_stepUp_73 ?_
            refine lv_aload_n hx hb dX10_stepUp_74 rfl (lv_at hl 1 rfl) ?_
            refine va_get (D := (dC, dI)) (ci := 10) (v := .ref (ad 20)) (C := RX10) (T := TX10) (N := 37) hx hb htg inX10 hown hE.1 hP 2 rfl rfl 19 (by decide) (htg _ tw1401) (fun _ h9 => h9) rfl dX10_stepUp_75 ?_
            refine lv_iload_n hx hb dX10_stepUp_78 rfl (lv_at hl 2 rfl) ?_
            obtain ⟨h9, hf⟩ := gd_s hf
            refine va_iald hx hb hE.1 hP 1 0 rfl rfl h9 dX10_stepUp_79 ?_
            refine lv_iadd hx hb dX10_stepUp_80 ?_
            obtain ⟨h9, hf⟩ := gd_s hf
            refine va_iast hx hb hE.1 hP hD hS 0 0 rfl rfl h9 dX10_stepUp_81 (fun H locs hP hD hS => ?_)
            obtain ⟨g81, h9⟩ : ∃ z, z = (upd g61 r69.toNatClampNeg ((g61 r69.toNatClampNeg) + (m_ways v1_23.toNatClampNeg))) := ⟨_, rfl⟩
            have hf := lb_e h9 hf
            have hP : va_P (dC, dI) vwCl [((ad 21), .inl (cI, 16, .inl g81)), ((ad 20), .inl (cI, 16, .inl m_ways)), (ad 0, .inr (10, oM ad m_undoCount m_thrown m_hasSnapshot a_m_fam m_rows m_lineLength m_formattedLength m_bufferLength m_limit m_next m_beginsAt m_token m_error m_errorAt m_errorPosition m_nested m_codeCount)), (a_m_fam, .inl (cJ, 130, .inr (.inl m_fam)))] H := by rw [h9]; exact hP
            have hD : va_D A [((ad 21), .inl (cI, 16, .inl g81)), ((ad 20), .inl (cI, 16, .inl m_ways)), (ad 0, .inr (10, oM ad m_undoCount m_thrown m_hasSnapshot a_m_fam m_rows m_lineLength m_formattedLength m_bufferLength m_limit m_next m_beginsAt m_token m_error m_errorAt m_errorPosition m_nested m_codeCount)), (a_m_fam, .inl (cJ, 130, .inr (.inl m_fam)))] := by rw [h9]; exact hD
            obtain ⟨t82, h9⟩ : ∃ z : Int32, z = (v1_23 + (1 : Int32)) := ⟨_, rfl⟩
            have hf := lb_e h9 hf
            refine lv_iinc (v := t82) (lv' := [(1, .int t82), (2, .int r33), (0, .ref (ad 0))]) hx hb dX10_stepUp_82 hl (k := 2) rfl (by rw [h9]; rfl) (by decide) rfl (fun ls hl => ?_)
            refine lv_goto (tgt := 23) hx hb dX10_stepUp_85 (by decide) ?_
            exact ih23 t82 g81 ex23 H locs ls hf hk23 (hP.sub [2, 3, 0, 1] rfl) (hD.sub [2, 3, 0, 1] (by decide) rfl) hS (lv_sub hl [2, 0] rfl)
    obtain ⟨ex, h9, hf⟩ := ob_s hf
    exact K23 FU (0 : Int32) m_further_21 ex H locs ls h9 hf hP hD hS (lv_sub hl [1, 0] rfl)
  refine lv_iconst (v := 0) hx hb dX10_stepUp_0 (by decide) ?_
  refine lv_istore_n (lv' := [(1, .int (0 : Int32)), (0, .ref (ad 0))]) hx hb dX10_stepUp_1 rfl hl (by decide) rfl (fun ls hl => ?_)
  have K2 : ∀ (n2 : Nat) (v1_2 : Int32) (m_further_2 : Nat → Int32) (ex2 : (Nat → Int32)) (H : Heap) (locs : List Loc) (ls : Array Slot), p10_stepUp_L2 n2 v1_2 m_further_2 = some ex2 → (fun m_further_x2 => p10_stepUp_J21 m_fam m_ways m_further_x2) ex2 = some (m_further_9, m_ways_9) → va_P (dC, dI) vwCl [(ad 0, .inr (10, oM ad m_undoCount m_thrown m_hasSnapshot a_m_fam m_rows m_lineLength m_formattedLength m_bufferLength m_limit m_next m_beginsAt m_token m_error m_errorAt m_errorPosition m_nested m_codeCount)), (a_m_fam, .inl (cJ, 130, .inr (.inl m_fam))), ((ad 21), .inl (cI, 16, .inl m_further_2)), ((ad 20), .inl (cI, 16, .inl m_ways))] H → va_D A [(ad 0, .inr (10, oM ad m_undoCount m_thrown m_hasSnapshot a_m_fam m_rows m_lineLength m_formattedLength m_bufferLength m_limit m_next m_beginsAt m_token m_error m_errorAt m_errorPosition m_nested m_codeCount)), (a_m_fam, .inl (cJ, 130, .inr (.inl m_fam))), ((ad 21), .inl (cI, 16, .inl m_further_2)), ((ad 20), .inl (cI, 16, .inl m_ways))] → va_S A s.heap H locs → lv_has ls 3 [(0, .ref (ad 0)), (1, .int v1_2)] → W p l e ({ frames := 2, cells := 0, slots := 0, locals := 43 }) s m ([.ref (ad 0)] : List Value).toArray below meth c H locs 0 0 (MQ below (gQ dC dI none A [(ad 0, .inr (10, oM ad m_undoCount m_thrown m_hasSnapshot a_m_fam m_rows m_lineLength m_formattedLength m_bufferLength m_limit m_next m_beginsAt m_token m_error m_errorAt m_errorPosition m_nested m_codeCount)), (a_m_fam, .inl (cJ, 130, .inr (.inl m_fam))), ((ad 21), .inl (cI, 16, .inl m_further_9)), ((ad 20), .inl (cI, 16, .inl m_ways_9))]) ([.ref (ad 0)] : List Value).toArray s 0 0 A) (F0 m 2 ls []) := by
    intro n2
    induction n2 with
    | zero => intro v1_2 m_further_2 ex2 H locs ls hf; rw [p10_stepUp_L2] at hf; cases hf
    | succ n2 ih2 =>
      intro v1_2 m_further_2 ex2 H locs ls hf hk2 hP hD hS hl
      rw [p10_stepUp_L2, p10_stepUp_L2_B] at hf
      refine lv_iload_n hx hb dX10_stepUp_2 rfl (lv_at hl 1 rfl) ?_
      refine lv_bipush (v := 16) hx hb dX10_stepUp_3 (by decide) ?_
      refine lv_icmp_ge (tgt := 21) hx hb dX10_stepUp_5 (by decide) (fun h9 => ?_) (fun h9 => ?_)
      · have hf := itt h9 hf
        cases hf
        have hf := hk2
        exact J21 m_further_2 H locs ls hf hP hD hS (lv_sub hl [0] rfl)
      · have hf := itf h9 hf
        refine lv_aload_n hx hb dX10_stepUp_8 rfl (lv_at hl 0 rfl) ?_
        refine va_get (D := (dC, dI)) (ci := 10) (v := .ref (ad 21)) (C := RX10) (T := TX10) (N := 37) hx hb htg inX10 hown hE.1 hP 0 rfl rfl 20 (by decide) (htg _ tw1402) (fun _ h9 => h9) rfl dX10_stepUp_9 ?_
        refine lv_iload_n hx hb dX10_stepUp_12 rfl (lv_at hl 1 rfl) ?_
        refine lv_iconst (v := 0) hx hb dX10_stepUp_13 (by decide) ?_
        obtain ⟨h9, hf⟩ := gd_s hf
        refine va_iast hx hb hE.1 hP hD hS 2 0 rfl rfl h9 dX10_stepUp_14 (fun H locs hP hD hS => ?_)
        obtain ⟨g14, h9⟩ : ∃ z, z = (upd m_further_2 v1_2.toNatClampNeg (0 : Int32)) := ⟨_, rfl⟩
        have hf := lb_e h9 hf
        have hP : va_P (dC, dI) vwCl [(ad 0, .inr (10, oM ad m_undoCount m_thrown m_hasSnapshot a_m_fam m_rows m_lineLength m_formattedLength m_bufferLength m_limit m_next m_beginsAt m_token m_error m_errorAt m_errorPosition m_nested m_codeCount)), (a_m_fam, .inl (cJ, 130, .inr (.inl m_fam))), ((ad 21), .inl (cI, 16, .inl g14)), ((ad 20), .inl (cI, 16, .inl m_ways))] H := by rw [h9]; exact hP
        have hD : va_D A [(ad 0, .inr (10, oM ad m_undoCount m_thrown m_hasSnapshot a_m_fam m_rows m_lineLength m_formattedLength m_bufferLength m_limit m_next m_beginsAt m_token m_error m_errorAt m_errorPosition m_nested m_codeCount)), (a_m_fam, .inl (cJ, 130, .inr (.inl m_fam))), ((ad 21), .inl (cI, 16, .inl g14)), ((ad 20), .inl (cI, 16, .inl m_ways))] := by rw [h9]; exact hD
        obtain ⟨t15, h9⟩ : ∃ z : Int32, z = (v1_2 + (1 : Int32)) := ⟨_, rfl⟩
        have hf := lb_e h9 hf
        refine lv_iinc (v := t15) (lv' := [(1, .int t15), (0, .ref (ad 0))]) hx hb dX10_stepUp_15 hl (k := 1) rfl (by rw [h9]; rfl) (by decide) rfl (fun ls hl => ?_)
        refine lv_goto (tgt := 2) hx hb dX10_stepUp_18 (by decide) ?_
        exact ih2 t15 g14 ex2 H locs ls hf hk2 hP hD hS (lv_sub hl [1, 0] rfl)
  obtain ⟨ex, h9, hf⟩ := ob_s hf
  exact K2 FU (0 : Int32) m_further ex H locs ls h9 hf hP hD hS (lv_sub hl [1, 0] rfl)
set_option maxHeartbeats 4000000 in
set_option maxRecDepth 100000 in
theorem c_X10_linesTo (ad : Nat → Nat) (a_m_fam : Nat) (m_undoCount : Int32) (m_thrown : Int32) (m_hasSnapshot : Bool) (m_rows : Int32) (m_lineLength : Int32) (m_formattedLength : Int32) (m_bufferLength : Int32) (m_limit : Int32) (m_next : Int32) (m_beginsAt : Int32) (m_token : Int32) (m_error : Int32) (m_errorAt : Int32) (m_errorPosition : Int32) (m_nested : Int32) (m_codeCount : Int32) (m_fam : Nat → Int64) (m_further : Nat → Int32) (m_ways : Nat → Int32) (v1 : Int32) (v2 : Int32) (r9 : Int32) (m_further_9 : Nat → Int32) (m_thrown_9 : Int32) (m_ways_9 : Nat → Int32) (hf : p10_linesTo m_fam m_further m_ways v1 v2 = some (r9, m_further_9, m_thrown_9, m_ways_9)) : gM l dC dI cI cJ cZ yX10_linesTo cX10_linesTo 5 (some .int) (3) (68) [.ref (ad 0), .int v1, .int v2] [(ad 0, .inr (10, oM ad m_undoCount m_thrown m_hasSnapshot a_m_fam m_rows m_lineLength m_formattedLength m_bufferLength m_limit m_next m_beginsAt m_token m_error m_errorAt m_errorPosition m_nested m_codeCount)), (a_m_fam, .inl (cJ, 130, .inr (.inl m_fam))), ((ad 21), .inl (cI, 16, .inl m_further)), ((ad 20), .inl (cI, 16, .inl m_ways))] [(ad 0, .inr (10, oM ad m_undoCount m_thrown_9 m_hasSnapshot a_m_fam m_rows m_lineLength m_formattedLength m_bufferLength m_limit m_next m_beginsAt m_token m_error m_errorAt m_errorPosition m_nested m_codeCount)), (a_m_fam, .inl (cJ, 130, .inr (.inl m_fam))), ((ad 21), .inl (cI, 16, .inl m_further_9)), ((ad 20), .inl (cI, 16, .inl m_ways_9))] (some (.int r9)) := by
  refine g_start (own := RX10) (by decide +kernel) rfl (Nat.le_of_ble_eq_true rfl) ?_
  intro p e s m below meth c A ls S hr hlocks hE hP hD hS hA hl hin
  have hx := S.1
  have hb := S.2.1
  have hml := S.2.2.1
  have hown := S.2.2.2.1
  have htg : ∀ z ∈ gw, z.before ([.ref (ad 0), .int v1, .int v2] : List Value).toArray s = true := fun w h => S.2.2.2.2 w (List.mem_cons_of_mem _ h)
  have hl : lv_has ls 5 [(0, .ref (ad 0)), (1, .int v1), (2, .int v2)] := hl
  have hS0 := hS
  obtain ⟨H, hH⟩ : ∃ H, H = s.heap := ⟨_, rfl⟩
  obtain ⟨locs, hlc⟩ : ∃ locs : List Loc, locs = [] := ⟨_, rfl⟩
  have hS : va_S A s.heap H locs := by rw [hH, hlc]; exact hS0
  have hP : va_P (dC, dI) vwCl [(ad 0, .inr (10, oM ad m_undoCount m_thrown m_hasSnapshot a_m_fam m_rows m_lineLength m_formattedLength m_bufferLength m_limit m_next m_beginsAt m_token m_error m_errorAt m_errorPosition m_nested m_codeCount)), (a_m_fam, .inl (cJ, 130, .inr (.inl m_fam))), ((ad 21), .inl (cI, 16, .inl m_further)), ((ad 20), .inl (cI, 16, .inl m_ways))] H := by rw [hH]; exact hP
  suffices hgo : W p l e ({ frames := 3, cells := 0, slots := 0, locals := 68 }) s m ([.ref (ad 0), .int v1, .int v2] : List Value).toArray below meth c H locs 0 0 (MQ below (gQ dC dI (some (.int r9)) A [(ad 0, .inr (10, oM ad m_undoCount m_thrown_9 m_hasSnapshot a_m_fam m_rows m_lineLength m_formattedLength m_bufferLength m_limit m_next m_beginsAt m_token m_error m_errorAt m_errorPosition m_nested m_codeCount)), (a_m_fam, .inl (cJ, 130, .inr (.inl m_fam))), ((ad 21), .inl (cI, 16, .inl m_further_9)), ((ad 20), .inl (cI, 16, .inl m_ways_9))]) ([.ref (ad 0), .int v1, .int v2] : List Value).toArray s 0 0 A) (F0 m 0 ls []) by rw [hH, hlc] at hgo; exact hgo
  rw [p10_linesTo] at hf
  have J52 : ∀ (v3_52 : Int32) (m_thrown_52 : Int32) (m_further_52 : Nat → Int32) (m_ways_52 : Nat → Int32) (H : Heap) (locs : List Loc) (ls : Array Slot), p10_linesTo_J52 v3_52 m_thrown_52 m_further_52 m_ways_52 = some (r9, m_further_9, m_thrown_9, m_ways_9) → va_P (dC, dI) vwCl [(ad 0, .inr (10, oM ad m_undoCount m_thrown_52 m_hasSnapshot a_m_fam m_rows m_lineLength m_formattedLength m_bufferLength m_limit m_next m_beginsAt m_token m_error m_errorAt m_errorPosition m_nested m_codeCount)), (a_m_fam, .inl (cJ, 130, .inr (.inl m_fam))), ((ad 21), .inl (cI, 16, .inl m_further_52)), ((ad 20), .inl (cI, 16, .inl m_ways_52))] H → va_D A [(ad 0, .inr (10, oM ad m_undoCount m_thrown_52 m_hasSnapshot a_m_fam m_rows m_lineLength m_formattedLength m_bufferLength m_limit m_next m_beginsAt m_token m_error m_errorAt m_errorPosition m_nested m_codeCount)), (a_m_fam, .inl (cJ, 130, .inr (.inl m_fam))), ((ad 21), .inl (cI, 16, .inl m_further_52)), ((ad 20), .inl (cI, 16, .inl m_ways_52))] → va_S A s.heap H locs → lv_has ls 5 [(3, .int v3_52)] → W p l e ({ frames := 3, cells := 0, slots := 0, locals := 68 }) s m ([.ref (ad 0), .int v1, .int v2] : List Value).toArray below meth c H locs 0 0 (MQ below (gQ dC dI (some (.int r9)) A [(ad 0, .inr (10, oM ad m_undoCount m_thrown_9 m_hasSnapshot a_m_fam m_rows m_lineLength m_formattedLength m_bufferLength m_limit m_next m_beginsAt m_token m_error m_errorAt m_errorPosition m_nested m_codeCount)), (a_m_fam, .inl (cJ, 130, .inr (.inl m_fam))), ((ad 21), .inl (cI, 16, .inl m_further_9)), ((ad 20), .inl (cI, 16, .inl m_ways_9))]) ([.ref (ad 0), .int v1, .int v2] : List Value).toArray s 0 0 A) (F0 m 52 ls []) := by
    intro v3_52 m_thrown_52 m_further_52 m_ways_52 H locs ls hf hP hD hS hl
    rw [p10_linesTo_J52] at hf
    refine lv_iload_n hx hb dX10_linesTo_52 rfl (lv_at hl 0 rfl) ?_
    cases hf
    exact g_iret S hr hlocks hP hD hS dX10_linesTo_53
  refine lv_aload_n hx hb dX10_linesTo_0 rfl (lv_at hl 0 rfl) ?_
  refine lv_iload_n hx hb dX10_linesTo_1 rfl (lv_at hl 1 rfl) ?_
  refine lv_iload_n hx hb dX10_linesTo_2 rfl (lv_at hl 2 rfl) ?_
  obtain ⟨⟨r3, m_thrown_3⟩, h9, hf⟩ := ob_s hf
  have hf := uc2_e hf
  refine gcV (index := 272) S hE (c_X10_arePersons ad a_m_fam m_undoCount m_thrown m_hasSnapshot m_rows m_lineLength m_formattedLength m_bufferLength m_limit m_next m_beginsAt m_token m_error m_errorAt m_errorPosition m_nested m_codeCount m_fam v1 v2 r3 m_thrown_3 h9) mX10_arePersons tw1664 ⟨Nat.le_of_ble_eq_true rfl, Nat.le_of_ble_eq_true rfl⟩ hP hD hS hA ⟨Nat.zero_le _, Nat.zero_le _⟩ 0 10 rfl rfl rfl (wr := [((ad 21), .inl (cI, 16, .inl m_further)), ((ad 20), .inl (cI, 16, .inl m_ways))]) [0, 1] [2, 3] rfl rfl rfl rfl (by decide) (As := [.int v1, .int v2]) (rest := []) rfl hl.1 rfl (Nat.le_of_ble_eq_true rfl) dX10_linesTo_3 (fun H locs hP hD hS => ?_)
  refine W.eq (g2 := F0 m 6 ls [.int (bI r3)]) rfl ?_
  have hP : va_P (dC, dI) vwCl [((ad 21), .inl (cI, 16, .inl m_further)), ((ad 20), .inl (cI, 16, .inl m_ways)), (ad 0, .inr (10, oM ad m_undoCount m_thrown_3 m_hasSnapshot a_m_fam m_rows m_lineLength m_formattedLength m_bufferLength m_limit m_next m_beginsAt m_token m_error m_errorAt m_errorPosition m_nested m_codeCount)), (a_m_fam, .inl (cJ, 130, .inr (.inl m_fam)))] H := hP
  have hD : va_D A [((ad 21), .inl (cI, 16, .inl m_further)), ((ad 20), .inl (cI, 16, .inl m_ways)), (ad 0, .inr (10, oM ad m_undoCount m_thrown_3 m_hasSnapshot a_m_fam m_rows m_lineLength m_formattedLength m_bufferLength m_limit m_next m_beginsAt m_token m_error m_errorAt m_errorPosition m_nested m_codeCount)), (a_m_fam, .inl (cJ, 130, .inr (.inl m_fam)))] := hD
  refine lv_if_ne (tgt := 11) hx hb dX10_linesTo_6 (by decide) (fun h9 => ?_) (fun h9 => ?_)
  · have hf := ctt (bI_1 h9) hf
    refine lv_aload_n hx hb dX10_linesTo_11 rfl (lv_at hl 0 rfl) ?_
    refine lv_iload_n hx hb dX10_linesTo_12 rfl (lv_at hl 1 rfl) ?_
    obtain ⟨m_ways_13, h9, hf⟩ := ob_s hf
    refine gcV (index := 281) S hE (c_X10_beginWays ad a_m_fam m_undoCount m_thrown_3 m_hasSnapshot m_rows m_lineLength m_formattedLength m_bufferLength m_limit m_next m_beginsAt m_token m_error m_errorAt m_errorPosition m_nested m_codeCount m_ways v1 m_ways_13 h9) mX10_beginWays tw1695 ⟨Nat.le_of_ble_eq_true rfl, Nat.le_of_ble_eq_true rfl⟩ hP hD hS hA ⟨Nat.zero_le _, Nat.zero_le _⟩ 2 10 rfl rfl rfl (wr := [((ad 21), .inl (cI, 16, .inl m_further)), (a_m_fam, .inl (cJ, 130, .inr (.inl m_fam)))]) [2, 1] [0, 3] rfl rfl rfl rfl (by decide) (As := [.int v1]) (rest := []) rfl hl.1 rfl (Nat.le_of_ble_eq_true rfl) dX10_linesTo_13 (fun H locs hP hD hS => ?_)
    refine W.eq (g2 := F0 m 16 ls []) rfl ?_
    have hP : va_P (dC, dI) vwCl [((ad 21), .inl (cI, 16, .inl m_further)), (a_m_fam, .inl (cJ, 130, .inr (.inl m_fam))), (ad 0, .inr (10, oM ad m_undoCount m_thrown_3 m_hasSnapshot a_m_fam m_rows m_lineLength m_formattedLength m_bufferLength m_limit m_next m_beginsAt m_token m_error m_errorAt m_errorPosition m_nested m_codeCount)), ((ad 20), .inl (cI, 16, .inl m_ways_13))] H := hP
    have hD : va_D A [((ad 21), .inl (cI, 16, .inl m_further)), (a_m_fam, .inl (cJ, 130, .inr (.inl m_fam))), (ad 0, .inr (10, oM ad m_undoCount m_thrown_3 m_hasSnapshot a_m_fam m_rows m_lineLength m_formattedLength m_bufferLength m_limit m_next m_beginsAt m_token m_error m_errorAt m_errorPosition m_nested m_codeCount)), ((ad 20), .inl (cI, 16, .inl m_ways_13))] := hD
    refine lv_aload_n hx hb dX10_linesTo_16 rfl (lv_at hl 0 rfl) ?_
    refine va_get (D := (dC, dI)) (ci := 10) (v := .ref (ad 20)) (C := RX10) (T := TX10) (N := 37) hx hb htg inX10 hown hE.1 hP 2 rfl rfl 19 (by decide) (htg _ tw1401) (fun _ h9 => h9) rfl dX10_linesTo_17 ?_
    refine lv_iload_n hx hb dX10_linesTo_20 rfl (lv_at hl 2 rfl) ?_
    obtain ⟨h9, hf⟩ := gd_s hf
    refine va_iald hx hb hE.1 hP 3 0 rfl rfl h9 dX10_linesTo_21 ?_
    refine lv_topi (fun t22 h9 => ?_)
    have hf := lb_e h9 hf
    refine lv_istore_n (lv' := [(3, .int t22), (0, .ref (ad 0)), (1, .int v1), (2, .int v2)]) hx hb dX10_linesTo_22 rfl hl (by decide) rfl (fun ls hl => ?_)
    refine lv_iconst (v := 0) hx hb dX10_linesTo_23 (by decide) ?_
    refine lv_istore (lv' := [(4, .int (0 : Int32)), (3, .int t22), (0, .ref (ad 0)), (1, .int v1), (2, .int v2)]) hx hb dX10_linesTo_24 hl (by decide) rfl (fun ls hl => ?_)
    have K26 : ∀ (n26 : Nat) (v3_26 : Int32) (v4_26 : Int32) (m_further_26 : Nat → Int32) (m_ways_26 : Nat → Int32) (ex26 : Int32 × (Nat → Int32) × (Nat → Int32)) (H : Heap) (locs : List Loc) (ls : Array Slot), p10_linesTo_L26 m_fam v2 n26 v3_26 v4_26 m_further_26 m_ways_26 = some ex26 → (uc3 fun v3_x26 m_further_x26 m_ways_x26 => p10_linesTo_J52 v3_x26 m_thrown_3 m_further_x26 m_ways_x26) ex26 = some (r9, m_further_9, m_thrown_9, m_ways_9) → va_P (dC, dI) vwCl [(ad 0, .inr (10, oM ad m_undoCount m_thrown_3 m_hasSnapshot a_m_fam m_rows m_lineLength m_formattedLength m_bufferLength m_limit m_next m_beginsAt m_token m_error m_errorAt m_errorPosition m_nested m_codeCount)), (a_m_fam, .inl (cJ, 130, .inr (.inl m_fam))), ((ad 21), .inl (cI, 16, .inl m_further_26)), ((ad 20), .inl (cI, 16, .inl m_ways_26))] H → va_D A [(ad 0, .inr (10, oM ad m_undoCount m_thrown_3 m_hasSnapshot a_m_fam m_rows m_lineLength m_formattedLength m_bufferLength m_limit m_next m_beginsAt m_token m_error m_errorAt m_errorPosition m_nested m_codeCount)), (a_m_fam, .inl (cJ, 130, .inr (.inl m_fam))), ((ad 21), .inl (cI, 16, .inl m_further_26)), ((ad 20), .inl (cI, 16, .inl m_ways_26))] → va_S A s.heap H locs → lv_has ls 5 [(0, .ref (ad 0)), (2, .int v2), (3, .int v3_26), (4, .int v4_26)] → W p l e ({ frames := 3, cells := 0, slots := 0, locals := 68 }) s m ([.ref (ad 0), .int v1, .int v2] : List Value).toArray below meth c H locs 0 0 (MQ below (gQ dC dI (some (.int r9)) A [(ad 0, .inr (10, oM ad m_undoCount m_thrown_9 m_hasSnapshot a_m_fam m_rows m_lineLength m_formattedLength m_bufferLength m_limit m_next m_beginsAt m_token m_error m_errorAt m_errorPosition m_nested m_codeCount)), (a_m_fam, .inl (cJ, 130, .inr (.inl m_fam))), ((ad 21), .inl (cI, 16, .inl m_further_9)), ((ad 20), .inl (cI, 16, .inl m_ways_9))]) ([.ref (ad 0), .int v1, .int v2] : List Value).toArray s 0 0 A) (F0 m 26 ls []) := by
      intro n26
      induction n26 with
      | zero => intro v3_26 v4_26 m_further_26 m_ways_26 ex26 H locs ls hf; rw [p10_linesTo_L26] at hf; cases hf
      | succ n26 ih26 =>
        intro v3_26 v4_26 m_further_26 m_ways_26 ex26 H locs ls hf hk26 hP hD hS hl
        rw [p10_linesTo_L26, p10_linesTo_L26_B] at hf
        refine lv_iload hx hb dX10_linesTo_26 (lv_at hl 3 rfl) ?_
        refine lv_bipush (v := 16) hx hb dX10_linesTo_28 (by decide) ?_
        refine lv_icmp_ge (tgt := 52) hx hb dX10_linesTo_30 (by decide) (fun h9 => ?_) (fun h9 => ?_)
        · have hf := itt h9 hf
          cases hf
          have hf := hk26
          have hf := uc3_e hf
          exact J52 v3_26 m_thrown_3 m_further_26 m_ways_26 H locs ls hf hP hD hS (lv_sub hl [2] rfl)
        · have hf := itf h9 hf
          refine lv_aload_n hx hb dX10_linesTo_33 rfl (lv_at hl 0 rfl) ?_
          obtain ⟨⟨m_further_34, m_ways_34⟩, h9, hf⟩ := ob_s hf
          have hf := uc2_e hf
          refine gcV (index := 284) S hE (c_X10_stepUp ad a_m_fam m_undoCount m_thrown_3 m_hasSnapshot m_rows m_lineLength m_formattedLength m_bufferLength m_limit m_next m_beginsAt m_token m_error m_errorAt m_errorPosition m_nested m_codeCount m_fam m_further_26 m_ways_26 m_further_34 m_ways_34 h9) mX10_stepUp tw1699 ⟨Nat.le_of_ble_eq_true rfl, Nat.le_of_ble_eq_true rfl⟩ hP hD hS hA ⟨Nat.zero_le _, Nat.zero_le _⟩ 0 10 rfl rfl rfl (wr := []) [0, 1, 2, 3] [] rfl rfl rfl rfl (by decide) (As := []) (rest := []) rfl hl.1 rfl (Nat.le_of_ble_eq_true rfl) dX10_linesTo_34 (fun H locs hP hD hS => ?_)
          refine W.eq (g2 := F0 m 37 ls []) rfl ?_
          have hP : va_P (dC, dI) vwCl [(ad 0, .inr (10, oM ad m_undoCount m_thrown_3 m_hasSnapshot a_m_fam m_rows m_lineLength m_formattedLength m_bufferLength m_limit m_next m_beginsAt m_token m_error m_errorAt m_errorPosition m_nested m_codeCount)), (a_m_fam, .inl (cJ, 130, .inr (.inl m_fam))), ((ad 21), .inl (cI, 16, .inl m_further_34)), ((ad 20), .inl (cI, 16, .inl m_ways_34))] H := hP
          have hD : va_D A [(ad 0, .inr (10, oM ad m_undoCount m_thrown_3 m_hasSnapshot a_m_fam m_rows m_lineLength m_formattedLength m_bufferLength m_limit m_next m_beginsAt m_token m_error m_errorAt m_errorPosition m_nested m_codeCount)), (a_m_fam, .inl (cJ, 130, .inr (.inl m_fam))), ((ad 21), .inl (cI, 16, .inl m_further_34)), ((ad 20), .inl (cI, 16, .inl m_ways_34))] := hD
          refine lv_iload_n hx hb dX10_linesTo_37 rfl (lv_at hl 2 rfl) ?_
          refine lv_aload_n hx hb dX10_linesTo_38 rfl (lv_at hl 0 rfl) ?_
          refine va_get (D := (dC, dI)) (ci := 10) (v := .ref (ad 20)) (C := RX10) (T := TX10) (N := 37) hx hb htg inX10 hown hE.1 hP 0 rfl rfl 19 (by decide) (htg _ tw1401) (fun _ h9 => h9) rfl dX10_linesTo_39 ?_
          refine lv_iload_n hx hb dX10_linesTo_42 rfl (lv_at hl 1 rfl) ?_
          obtain ⟨h9, hf⟩ := gd_s hf
          refine va_iald hx hb hE.1 hP 3 0 rfl rfl h9 dX10_linesTo_43 ?_
          refine lv_iadd hx hb dX10_linesTo_44 ?_
          refine lv_topi (fun t45 h9 => ?_)
          have hf := lb_e h9 hf
          refine lv_istore_n (lv' := [(3, .int t45), (0, .ref (ad 0)), (2, .int v2), (4, .int v4_26)]) hx hb dX10_linesTo_45 rfl hl (by decide) rfl (fun ls hl => ?_)
          obtain ⟨t46, h9⟩ : ∃ z : Int32, z = (v4_26 + (1 : Int32)) := ⟨_, rfl⟩
          have hf := lb_e h9 hf
          refine lv_iinc (v := t46) (lv' := [(4, .int t46), (3, .int t45), (0, .ref (ad 0)), (2, .int v2)]) hx hb dX10_linesTo_46 hl (k := 3) rfl (by rw [h9]; rfl) (by decide) rfl (fun ls hl => ?_)
          refine lv_goto (tgt := 26) hx hb dX10_linesTo_49 (by decide) ?_
          exact ih26 t45 t46 m_further_34 m_ways_34 ex26 H locs ls hf hk26 hP hD hS (lv_sub hl [2, 3, 1, 0] rfl)
    obtain ⟨ex, h9, hf⟩ := ob_s hf
    exact K26 FU t22 (0 : Int32) m_further m_ways_13 ex H locs ls h9 hf (hP.sub [2, 1, 0, 3] rfl) (hD.sub [2, 1, 0, 3] (by decide) rfl) hS (lv_sub hl [2, 4, 1, 0] rfl)
  · have hf := ctf (bI_0 h9) hf
    refine lv_iconst (v := 0) hx hb dX10_linesTo_9 (by decide) ?_
    cases hf
    exact g_iret S hr hlocks (hP.sub [2, 3, 0, 1] rfl) (hD.sub [2, 3, 0, 1] (by decide) rfl) hS dX10_linesTo_10
set_option maxHeartbeats 4000000 in
set_option maxRecDepth 100000 in
theorem c_X10_nearestAncestor (ad : Nat → Nat) (a_m_fam : Nat) (m_undoCount : Int32) (m_thrown : Int32) (m_hasSnapshot : Bool) (m_rows : Int32) (m_lineLength : Int32) (m_formattedLength : Int32) (m_bufferLength : Int32) (m_limit : Int32) (m_next : Int32) (m_beginsAt : Int32) (m_token : Int32) (m_error : Int32) (m_errorAt : Int32) (m_errorPosition : Int32) (m_nested : Int32) (m_codeCount : Int32) (m_fam : Nat → Int64) (m_generation : Nat → Int32) (m_level : Nat → Int32) (v1 : Int32) (v2 : Int32) (r9 : Int32) (m_generation_9 : Nat → Int32) (m_level_9 : Nat → Int32) (m_rows_9 : Int32) (m_thrown_9 : Int32) (hf : p10_nearestAncestor m_rows m_fam m_generation m_level v1 v2 = some (r9, m_generation_9, m_level_9, m_rows_9, m_thrown_9)) : gM l dC dI cI cJ cZ yX10_nearestAncestor cX10_nearestAncestor 6 (some .int) (3) (70) [.ref (ad 0), .int v1, .int v2] [(ad 0, .inr (10, oM ad m_undoCount m_thrown m_hasSnapshot a_m_fam m_rows m_lineLength m_formattedLength m_bufferLength m_limit m_next m_beginsAt m_token m_error m_errorAt m_errorPosition m_nested m_codeCount)), (a_m_fam, .inl (cJ, 130, .inr (.inl m_fam))), ((ad 9), .inl (cI, 16, .inl m_generation)), ((ad 10), .inl (cI, 12, .inl m_level))] [(ad 0, .inr (10, oM ad m_undoCount m_thrown_9 m_hasSnapshot a_m_fam m_rows_9 m_lineLength m_formattedLength m_bufferLength m_limit m_next m_beginsAt m_token m_error m_errorAt m_errorPosition m_nested m_codeCount)), (a_m_fam, .inl (cJ, 130, .inr (.inl m_fam))), ((ad 9), .inl (cI, 16, .inl m_generation_9)), ((ad 10), .inl (cI, 12, .inl m_level_9))] (some (.int r9)) := by
  refine g_start (own := RX10) (by decide +kernel) rfl (Nat.le_of_ble_eq_true rfl) ?_
  intro p e s m below meth c A ls S hr hlocks hE hP hD hS hA hl hin
  have hx := S.1
  have hb := S.2.1
  have hml := S.2.2.1
  have hown := S.2.2.2.1
  have htg : ∀ z ∈ gw, z.before ([.ref (ad 0), .int v1, .int v2] : List Value).toArray s = true := fun w h => S.2.2.2.2 w (List.mem_cons_of_mem _ h)
  have hl : lv_has ls 6 [(0, .ref (ad 0)), (1, .int v1), (2, .int v2)] := hl
  have hS0 := hS
  obtain ⟨H, hH⟩ : ∃ H, H = s.heap := ⟨_, rfl⟩
  obtain ⟨locs, hlc⟩ : ∃ locs : List Loc, locs = [] := ⟨_, rfl⟩
  have hS : va_S A s.heap H locs := by rw [hH, hlc]; exact hS0
  have hP : va_P (dC, dI) vwCl [(ad 0, .inr (10, oM ad m_undoCount m_thrown m_hasSnapshot a_m_fam m_rows m_lineLength m_formattedLength m_bufferLength m_limit m_next m_beginsAt m_token m_error m_errorAt m_errorPosition m_nested m_codeCount)), (a_m_fam, .inl (cJ, 130, .inr (.inl m_fam))), ((ad 9), .inl (cI, 16, .inl m_generation)), ((ad 10), .inl (cI, 12, .inl m_level))] H := by rw [hH]; exact hP
  suffices hgo : W p l e ({ frames := 3, cells := 0, slots := 0, locals := 70 }) s m ([.ref (ad 0), .int v1, .int v2] : List Value).toArray below meth c H locs 0 0 (MQ below (gQ dC dI (some (.int r9)) A [(ad 0, .inr (10, oM ad m_undoCount m_thrown_9 m_hasSnapshot a_m_fam m_rows_9 m_lineLength m_formattedLength m_bufferLength m_limit m_next m_beginsAt m_token m_error m_errorAt m_errorPosition m_nested m_codeCount)), (a_m_fam, .inl (cJ, 130, .inr (.inl m_fam))), ((ad 9), .inl (cI, 16, .inl m_generation_9)), ((ad 10), .inl (cI, 12, .inl m_level_9))]) ([.ref (ad 0), .int v1, .int v2] : List Value).toArray s 0 0 A) (F0 m 0 ls []) by rw [hH, hlc] at hgo; exact hgo
  rw [p10_nearestAncestor] at hf
  have J98 : ∀ (v4_98 : Int32) (m_thrown_98 : Int32) (m_rows_98 : Int32) (m_generation_98 : Nat → Int32) (m_level_98 : Nat → Int32) (H : Heap) (locs : List Loc) (ls : Array Slot), p10_nearestAncestor_J98 v4_98 m_thrown_98 m_rows_98 m_generation_98 m_level_98 = some (r9, m_generation_9, m_level_9, m_rows_9, m_thrown_9) → va_P (dC, dI) vwCl [(ad 0, .inr (10, oM ad m_undoCount m_thrown_98 m_hasSnapshot a_m_fam m_rows_98 m_lineLength m_formattedLength m_bufferLength m_limit m_next m_beginsAt m_token m_error m_errorAt m_errorPosition m_nested m_codeCount)), (a_m_fam, .inl (cJ, 130, .inr (.inl m_fam))), ((ad 9), .inl (cI, 16, .inl m_generation_98)), ((ad 10), .inl (cI, 12, .inl m_level_98))] H → va_D A [(ad 0, .inr (10, oM ad m_undoCount m_thrown_98 m_hasSnapshot a_m_fam m_rows_98 m_lineLength m_formattedLength m_bufferLength m_limit m_next m_beginsAt m_token m_error m_errorAt m_errorPosition m_nested m_codeCount)), (a_m_fam, .inl (cJ, 130, .inr (.inl m_fam))), ((ad 9), .inl (cI, 16, .inl m_generation_98)), ((ad 10), .inl (cI, 12, .inl m_level_98))] → va_S A s.heap H locs → lv_has ls 6 [(4, .int v4_98)] → W p l e ({ frames := 3, cells := 0, slots := 0, locals := 70 }) s m ([.ref (ad 0), .int v1, .int v2] : List Value).toArray below meth c H locs 0 0 (MQ below (gQ dC dI (some (.int r9)) A [(ad 0, .inr (10, oM ad m_undoCount m_thrown_9 m_hasSnapshot a_m_fam m_rows_9 m_lineLength m_formattedLength m_bufferLength m_limit m_next m_beginsAt m_token m_error m_errorAt m_errorPosition m_nested m_codeCount)), (a_m_fam, .inl (cJ, 130, .inr (.inl m_fam))), ((ad 9), .inl (cI, 16, .inl m_generation_9)), ((ad 10), .inl (cI, 12, .inl m_level_9))]) ([.ref (ad 0), .int v1, .int v2] : List Value).toArray s 0 0 A) (F0 m 98 ls []) := by
    intro v4_98 m_thrown_98 m_rows_98 m_generation_98 m_level_98 H locs ls hf hP hD hS hl
    rw [p10_nearestAncestor_J98] at hf
    refine lv_iload hx hb dX10_nearestAncestor_98 (lv_at hl 0 rfl) ?_
    cases hf
    exact g_iret S hr hlocks hP hD hS dX10_nearestAncestor_100
  refine lv_aload_n hx hb dX10_nearestAncestor_0 rfl (lv_at hl 0 rfl) ?_
  refine lv_iload_n hx hb dX10_nearestAncestor_1 rfl (lv_at hl 1 rfl) ?_
  refine lv_iload_n hx hb dX10_nearestAncestor_2 rfl (lv_at hl 2 rfl) ?_
  obtain ⟨⟨r3, m_thrown_3⟩, h9, hf⟩ := ob_s hf
  have hf := uc2_e hf
  refine gcV (index := 272) S hE (c_X10_arePersons ad a_m_fam m_undoCount m_thrown m_hasSnapshot m_rows m_lineLength m_formattedLength m_bufferLength m_limit m_next m_beginsAt m_token m_error m_errorAt m_errorPosition m_nested m_codeCount m_fam v1 v2 r3 m_thrown_3 h9) mX10_arePersons tw1664 ⟨Nat.le_of_ble_eq_true rfl, Nat.le_of_ble_eq_true rfl⟩ hP hD hS hA ⟨Nat.zero_le _, Nat.zero_le _⟩ 0 10 rfl rfl rfl (wr := [((ad 9), .inl (cI, 16, .inl m_generation)), ((ad 10), .inl (cI, 12, .inl m_level))]) [0, 1] [2, 3] rfl rfl rfl rfl (by decide) (As := [.int v1, .int v2]) (rest := []) rfl hl.1 rfl (Nat.le_of_ble_eq_true rfl) dX10_nearestAncestor_3 (fun H locs hP hD hS => ?_)
  refine W.eq (g2 := F0 m 6 ls [.int (bI r3)]) rfl ?_
  have hP : va_P (dC, dI) vwCl [((ad 9), .inl (cI, 16, .inl m_generation)), ((ad 10), .inl (cI, 12, .inl m_level)), (ad 0, .inr (10, oM ad m_undoCount m_thrown_3 m_hasSnapshot a_m_fam m_rows m_lineLength m_formattedLength m_bufferLength m_limit m_next m_beginsAt m_token m_error m_errorAt m_errorPosition m_nested m_codeCount)), (a_m_fam, .inl (cJ, 130, .inr (.inl m_fam)))] H := hP
  have hD : va_D A [((ad 9), .inl (cI, 16, .inl m_generation)), ((ad 10), .inl (cI, 12, .inl m_level)), (ad 0, .inr (10, oM ad m_undoCount m_thrown_3 m_hasSnapshot a_m_fam m_rows m_lineLength m_formattedLength m_bufferLength m_limit m_next m_beginsAt m_token m_error m_errorAt m_errorPosition m_nested m_codeCount)), (a_m_fam, .inl (cJ, 130, .inr (.inl m_fam)))] := hD
  refine lv_if_ne (tgt := 11) hx hb dX10_nearestAncestor_6 (by decide) (fun h9 => ?_) (fun h9 => ?_)
  · have hf := ctt (bI_1 h9) hf
    refine lv_aload_n hx hb dX10_nearestAncestor_11 rfl (lv_at hl 0 rfl) ?_
    obtain ⟨⟨m_generation_12, m_level_12, m_rows_12⟩, h9, hf⟩ := ob_s hf
    have hf := uc3_e hf
    refine gcV (index := 138) S hE (c_X10_layGenerations ad a_m_fam m_undoCount m_thrown_3 m_hasSnapshot m_rows m_lineLength m_formattedLength m_bufferLength m_limit m_next m_beginsAt m_token m_error m_errorAt m_errorPosition m_nested m_codeCount m_fam m_generation m_level m_generation_12 m_level_12 m_rows_12 h9) mX10_layGenerations tw1507 ⟨Nat.le_of_ble_eq_true rfl, Nat.le_of_ble_eq_true rfl⟩ hP hD hS hA ⟨Nat.zero_le _, Nat.zero_le _⟩ 2 10 rfl rfl rfl (wr := []) [2, 3, 0, 1] [] rfl rfl rfl rfl (by decide) (As := []) (rest := []) rfl hl.1 rfl (Nat.le_of_ble_eq_true rfl) dX10_nearestAncestor_12 (fun H locs hP hD hS => ?_)
    refine W.eq (g2 := F0 m 15 ls []) rfl ?_
    have hP : va_P (dC, dI) vwCl [(ad 0, .inr (10, oM ad m_undoCount m_thrown_3 m_hasSnapshot a_m_fam m_rows_12 m_lineLength m_formattedLength m_bufferLength m_limit m_next m_beginsAt m_token m_error m_errorAt m_errorPosition m_nested m_codeCount)), (a_m_fam, .inl (cJ, 130, .inr (.inl m_fam))), ((ad 9), .inl (cI, 16, .inl m_generation_12)), ((ad 10), .inl (cI, 12, .inl m_level_12))] H := hP
    have hD : va_D A [(ad 0, .inr (10, oM ad m_undoCount m_thrown_3 m_hasSnapshot a_m_fam m_rows_12 m_lineLength m_formattedLength m_bufferLength m_limit m_next m_beginsAt m_token m_error m_errorAt m_errorPosition m_nested m_codeCount)), (a_m_fam, .inl (cJ, 130, .inr (.inl m_fam))), ((ad 9), .inl (cI, 16, .inl m_generation_12)), ((ad 10), .inl (cI, 12, .inl m_level_12))] := hD
    refine lv_aload_n hx hb dX10_nearestAncestor_15 rfl (lv_at hl 0 rfl) ?_
    refine lv_iload_n hx hb dX10_nearestAncestor_16 rfl (lv_at hl 1 rfl) ?_
    obtain ⟨r17, h9, hf⟩ := ob_s hf
    refine gcV (index := 254) S hE (c_X10_ancestorMask ad a_m_fam m_undoCount m_thrown_3 m_hasSnapshot m_rows_12 m_lineLength m_formattedLength m_bufferLength m_limit m_next m_beginsAt m_token m_error m_errorAt m_errorPosition m_nested m_codeCount m_fam v1 r17 h9) mX10_ancestorMask tw1648 ⟨Nat.le_of_ble_eq_true rfl, Nat.le_of_ble_eq_true rfl⟩ hP hD hS hA ⟨Nat.zero_le _, Nat.zero_le _⟩ 0 10 rfl rfl rfl (wr := [((ad 9), .inl (cI, 16, .inl m_generation_12)), ((ad 10), .inl (cI, 12, .inl m_level_12))]) [0, 1] [2, 3] rfl rfl rfl rfl (by decide) (As := [.int v1]) (rest := []) rfl hl.1 rfl (Nat.le_of_ble_eq_true rfl) dX10_nearestAncestor_17 (fun H locs hP hD hS => ?_)
    refine W.eq (g2 := F0 m 20 ls [.int r17]) rfl ?_
    have hP : va_P (dC, dI) vwCl [((ad 9), .inl (cI, 16, .inl m_generation_12)), ((ad 10), .inl (cI, 12, .inl m_level_12)), (ad 0, .inr (10, oM ad m_undoCount m_thrown_3 m_hasSnapshot a_m_fam m_rows_12 m_lineLength m_formattedLength m_bufferLength m_limit m_next m_beginsAt m_token m_error m_errorAt m_errorPosition m_nested m_codeCount)), (a_m_fam, .inl (cJ, 130, .inr (.inl m_fam)))] H := hP
    have hD : va_D A [((ad 9), .inl (cI, 16, .inl m_generation_12)), ((ad 10), .inl (cI, 12, .inl m_level_12)), (ad 0, .inr (10, oM ad m_undoCount m_thrown_3 m_hasSnapshot a_m_fam m_rows_12 m_lineLength m_formattedLength m_bufferLength m_limit m_next m_beginsAt m_token m_error m_errorAt m_errorPosition m_nested m_codeCount)), (a_m_fam, .inl (cJ, 130, .inr (.inl m_fam)))] := hD
    refine lv_iconst (v := 1) hx hb dX10_nearestAncestor_20 (by decide) ?_
    refine lv_iload_n hx hb dX10_nearestAncestor_21 rfl (lv_at hl 1 rfl) ?_
    refine lv_ishl hx hb dX10_nearestAncestor_22 ?_
    refine lv_ior hx hb dX10_nearestAncestor_23 ?_
    refine lv_aload_n hx hb dX10_nearestAncestor_24 rfl (lv_at hl 0 rfl) ?_
    refine lv_iload_n hx hb dX10_nearestAncestor_25 rfl (lv_at hl 2 rfl) ?_
    obtain ⟨r26, h9, hf⟩ := ob_s hf
    refine gcV (index := 254) S hE (c_X10_ancestorMask ad a_m_fam m_undoCount m_thrown_3 m_hasSnapshot m_rows_12 m_lineLength m_formattedLength m_bufferLength m_limit m_next m_beginsAt m_token m_error m_errorAt m_errorPosition m_nested m_codeCount m_fam v2 r26 h9) mX10_ancestorMask tw1648 ⟨Nat.le_of_ble_eq_true rfl, Nat.le_of_ble_eq_true rfl⟩ hP hD hS hA ⟨Nat.zero_le _, Nat.zero_le _⟩ 2 10 rfl rfl rfl (wr := [((ad 9), .inl (cI, 16, .inl m_generation_12)), ((ad 10), .inl (cI, 12, .inl m_level_12))]) [2, 3] [0, 1] rfl rfl rfl rfl (by decide) (As := [.int v2]) (rest := [.int (r17 ||| ((1 : Int32) <<< (v1 &&& 31)))]) rfl hl.1 rfl (Nat.le_of_ble_eq_true rfl) dX10_nearestAncestor_26 (fun H locs hP hD hS => ?_)
    refine W.eq (g2 := F0 m 29 ls [.int r26, .int (r17 ||| ((1 : Int32) <<< (v1 &&& 31)))]) rfl ?_
    have hP : va_P (dC, dI) vwCl [((ad 9), .inl (cI, 16, .inl m_generation_12)), ((ad 10), .inl (cI, 12, .inl m_level_12)), (ad 0, .inr (10, oM ad m_undoCount m_thrown_3 m_hasSnapshot a_m_fam m_rows_12 m_lineLength m_formattedLength m_bufferLength m_limit m_next m_beginsAt m_token m_error m_errorAt m_errorPosition m_nested m_codeCount)), (a_m_fam, .inl (cJ, 130, .inr (.inl m_fam)))] H := hP
    have hD : va_D A [((ad 9), .inl (cI, 16, .inl m_generation_12)), ((ad 10), .inl (cI, 12, .inl m_level_12)), (ad 0, .inr (10, oM ad m_undoCount m_thrown_3 m_hasSnapshot a_m_fam m_rows_12 m_lineLength m_formattedLength m_bufferLength m_limit m_next m_beginsAt m_token m_error m_errorAt m_errorPosition m_nested m_codeCount)), (a_m_fam, .inl (cJ, 130, .inr (.inl m_fam)))] := hD
    refine lv_iconst (v := 1) hx hb dX10_nearestAncestor_29 (by decide) ?_
    refine lv_iload_n hx hb dX10_nearestAncestor_30 rfl (lv_at hl 2 rfl) ?_
    refine lv_ishl hx hb dX10_nearestAncestor_31 ?_
    refine lv_ior hx hb dX10_nearestAncestor_32 ?_
    refine lv_iand hx hb dX10_nearestAncestor_33 ?_
    refine lv_topi (fun t34 h9 => ?_)
    have hf := lb_e h9 hf
    refine lv_istore_n (lv' := [(3, .int t34), (0, .ref (ad 0)), (1, .int v1), (2, .int v2)]) hx hb dX10_nearestAncestor_34 rfl hl (by decide) rfl (fun ls hl => ?_)
    refine lv_iconst (v := -1) hx hb dX10_nearestAncestor_35 (by decide) ?_
    refine lv_istore (lv' := [(4, .int (-1 : Int32)), (3, .int t34), (0, .ref (ad 0)), (1, .int v1), (2, .int v2)]) hx hb dX10_nearestAncestor_36 hl (by decide) rfl (fun ls hl => ?_)
    refine lv_iconst (v := 0) hx hb dX10_nearestAncestor_38 (by decide) ?_
    refine lv_istore (lv' := [(5, .int (0 : Int32)), (4, .int (-1 : Int32)), (3, .int t34), (0, .ref (ad 0)), (1, .int v1), (2, .int v2)]) hx hb dX10_nearestAncestor_39 hl (by decide) rfl (fun ls hl => ?_)
    have K41 : ∀ (n41 : Nat) (v4_41 : Int32) (v5_41 : Int32) (ex41 : Int32) (H : Heap) (locs : List Loc) (ls : Array Slot), p10_nearestAncestor_L41 m_fam m_generation_12 t34 n41 v4_41 v5_41 = some ex41 → (fun v4_x41 => p10_nearestAncestor_J98 v4_x41 m_thrown_3 m_rows_12 m_generation_12 m_level_12) ex41 = some (r9, m_generation_9, m_level_9, m_rows_9, m_thrown_9) → va_P (dC, dI) vwCl [(ad 0, .inr (10, oM ad m_undoCount m_thrown_3 m_hasSnapshot a_m_fam m_rows_12 m_lineLength m_formattedLength m_bufferLength m_limit m_next m_beginsAt m_token m_error m_errorAt m_errorPosition m_nested m_codeCount)), (a_m_fam, .inl (cJ, 130, .inr (.inl m_fam))), ((ad 9), .inl (cI, 16, .inl m_generation_12)), ((ad 10), .inl (cI, 12, .inl m_level_12))] H → va_D A [(ad 0, .inr (10, oM ad m_undoCount m_thrown_3 m_hasSnapshot a_m_fam m_rows_12 m_lineLength m_formattedLength m_bufferLength m_limit m_next m_beginsAt m_token m_error m_errorAt m_errorPosition m_nested m_codeCount)), (a_m_fam, .inl (cJ, 130, .inr (.inl m_fam))), ((ad 9), .inl (cI, 16, .inl m_generation_12)), ((ad 10), .inl (cI, 12, .inl m_level_12))] → va_S A s.heap H locs → lv_has ls 6 [(0, .ref (ad 0)), (3, .int t34), (4, .int v4_41), (5, .int v5_41)] → W p l e ({ frames := 3, cells := 0, slots := 0, locals := 70 }) s m ([.ref (ad 0), .int v1, .int v2] : List Value).toArray below meth c H locs 0 0 (MQ below (gQ dC dI (some (.int r9)) A [(ad 0, .inr (10, oM ad m_undoCount m_thrown_9 m_hasSnapshot a_m_fam m_rows_9 m_lineLength m_formattedLength m_bufferLength m_limit m_next m_beginsAt m_token m_error m_errorAt m_errorPosition m_nested m_codeCount)), (a_m_fam, .inl (cJ, 130, .inr (.inl m_fam))), ((ad 9), .inl (cI, 16, .inl m_generation_9)), ((ad 10), .inl (cI, 12, .inl m_level_9))]) ([.ref (ad 0), .int v1, .int v2] : List Value).toArray s 0 0 A) (F0 m 41 ls []) := by
      intro n41
      induction n41 with
      | zero => intro v4_41 v5_41 ex41 H locs ls hf; rw [p10_nearestAncestor_L41] at hf; cases hf
      | succ n41 ih41 =>
        intro v4_41 v5_41 ex41 H locs ls hf hk41 hP hD hS hl
        rw [p10_nearestAncestor_L41, p10_nearestAncestor_L41_B] at hf
        refine lv_iload hx hb dX10_nearestAncestor_41 (lv_at hl 3 rfl) ?_
        refine lv_aload_n hx hb dX10_nearestAncestor_43 rfl (lv_at hl 0 rfl) ?_
        obtain ⟨r44, h9, hf⟩ := ob_s hf
        refine gcV (index := 121) S hE (c_X10_persons ad a_m_fam m_undoCount m_thrown_3 m_hasSnapshot m_rows_12 m_lineLength m_formattedLength m_bufferLength m_limit m_next m_beginsAt m_token m_error m_errorAt m_errorPosition m_nested m_codeCount m_fam r44 h9) mX10_persons tw1511 ⟨Nat.le_of_ble_eq_true rfl, Nat.le_of_ble_eq_true rfl⟩ hP hD hS hA ⟨Nat.zero_le _, Nat.zero_le _⟩ 0 10 rfl rfl rfl (wr := [((ad 9), .inl (cI, 16, .inl m_generation_12)), ((ad 10), .inl (cI, 12, .inl m_level_12))]) [0, 1] [2, 3] rfl rfl rfl rfl (by decide) (As := []) (rest := [.int v5_41]) rfl hl.1 rfl (Nat.le_of_ble_eq_true rfl) dX10_nearestAncestor_44 (fun H locs hP hD hS => ?_)
        refine W.eq (g2 := F0 m 47 ls [.int r44, .int v5_41]) rfl ?_
        have hP : va_P (dC, dI) vwCl [((ad 9), .inl (cI, 16, .inl m_generation_12)), ((ad 10), .inl (cI, 12, .inl m_level_12)), (ad 0, .inr (10, oM ad m_undoCount m_thrown_3 m_hasSnapshot a_m_fam m_rows_12 m_lineLength m_formattedLength m_bufferLength m_limit m_next m_beginsAt m_token m_error m_errorAt m_errorPosition m_nested m_codeCount)), (a_m_fam, .inl (cJ, 130, .inr (.inl m_fam)))] H := hP
        have hD : va_D A [((ad 9), .inl (cI, 16, .inl m_generation_12)), ((ad 10), .inl (cI, 12, .inl m_level_12)), (ad 0, .inr (10, oM ad m_undoCount m_thrown_3 m_hasSnapshot a_m_fam m_rows_12 m_lineLength m_formattedLength m_bufferLength m_limit m_next m_beginsAt m_token m_error m_errorAt m_errorPosition m_nested m_codeCount)), (a_m_fam, .inl (cJ, 130, .inr (.inl m_fam)))] := hD
        refine lv_icmp_ge (tgt := 98) hx hb dX10_nearestAncestor_47 (by decide) (fun h9 => ?_) (fun h9 => ?_)
        · have hf := itt h9 hf
          cases hf
          have hf := hk41
          exact J98 v4_41 m_thrown_3 m_rows_12 m_generation_12 m_level_12 H locs ls hf (hP.sub [2, 3, 0, 1] rfl) (hD.sub [2, 3, 0, 1] (by decide) rfl) hS (lv_sub hl [2] rfl)
        · have hf := itf h9 hf
          refine lv_iload_n hx hb dX10_nearestAncestor_50 rfl (lv_at hl 1 rfl) ?_
          refine lv_iload hx hb dX10_nearestAncestor_51 (lv_at hl 3 rfl) ?_
          refine lv_ishr hx hb dX10_nearestAncestor_53 ?_
          refine lv_iconst (v := 1) hx hb dX10_nearestAncestor_54 (by decide) ?_
          refine lv_iand hx hb dX10_nearestAncestor_55 ?_
          refine lv_iconst (v := 1) hx hb dX10_nearestAncestor_56 (by decide) ?_
          refine lv_icmp_ne (tgt := 88) hx hb dX10_nearestAncestor_57 (by decide) (fun h9 => ?_) (fun h9 => ?_)
          · have hf := itf h9 hf
            refine lv_iload hx hb dX10_nearestAncestor_88 (lv_at hl 2 rfl) ?_
            refine lv_istore (lv' := [(4, .int v4_41), (0, .ref (ad 0)), (3, .int t34), (5, .int v5_41)]) hx hb dX10_nearestAncestor_90 hl (by decide) rfl (fun ls hl => ?_)
            obtain ⟨t92, h9⟩ : ∃ z : Int32, z = (v5_41 + (1 : Int32)) := ⟨_, rfl⟩
            have hf := lb_e h9 hf
            refine lv_iinc (v := t92) (lv' := [(5, .int t92), (4, .int v4_41), (0, .ref (ad 0)), (3, .int t34)]) hx hb dX10_nearestAncestor_92 hl (k := 3) rfl (by rw [h9]; rfl) (by decide) rfl (fun ls hl => ?_)
            refine lv_goto (tgt := 41) hx hb dX10_nearestAncestor_95 (by decide) ?_
            exact ih41 v4_41 t92 ex41 H locs ls hf hk41 (hP.sub [2, 3, 0, 1] rfl) (hD.sub [2, 3, 0, 1] (by decide) rfl) hS (lv_sub hl [2, 3, 1, 0] rfl)
          · have hf := itt h9 hf
            refine lv_iload hx hb dX10_nearestAncestor_60 (lv_at hl 2 rfl) ?_
            refine lv_iconst (v := -1) hx hb dX10_nearestAncestor_62 (by decide) ?_
            refine lv_icmp_eq (tgt := 83) hx hb dX10_nearestAncestor_63 (by decide) (fun h9 => ?_) (fun h9 => ?_)
            · have hf := itt h9 hf
              refine lv_iload hx hb dX10_nearestAncestor_83 (lv_at hl 3 rfl) ?_
              refine lv_goto (tgt := 90) hx hb dX10_nearestAncestor_85 (by decide) ?_
              refine lv_istore (lv' := [(4, .int v5_41), (0, .ref (ad 0)), (3, .int t34), (5, .int v5_41)]) hx hb dX10_nearestAncestor_90 hl (by decide) rfl (fun ls hl => ?_)
              obtain ⟨t92, h9⟩ : ∃ z : Int32, z = (v5_41 + (1 : Int32)) := ⟨_, rfl⟩
              have hf := lb_e h9 hf
              refine lv_iinc (v := t92) (lv' := [(5, .int t92), (4, .int v5_41), (0, .ref (ad 0)), (3, .int t34)]) hx hb dX10_nearestAncestor_92 hl (k := 3) rfl (by rw [h9]; rfl) (by decide) rfl (fun ls hl => ?_)
              refine lv_goto (tgt := 41) hx hb dX10_nearestAncestor_95 (by decide) ?_
              exact ih41 v5_41 t92 ex41 H locs ls hf hk41 (hP.sub [2, 3, 0, 1] rfl) (hD.sub [2, 3, 0, 1] (by decide) rfl) hS (lv_sub hl [2, 3, 1, 0] rfl)
            · have hf := itf h9 hf
              refine lv_aload_n hx hb dX10_nearestAncestor_66 rfl (lv_at hl 0 rfl) ?_
              refine va_get (D := (dC, dI)) (ci := 10) (v := .ref (ad 9)) (C := RX10) (T := TX10) (N := 37) hx hb htg inX10 hown hE.1 hP 2 rfl rfl 8 (by decide) (htg _ tw1390) (fun _ h9 => h9) rfl dX10_nearestAncestor_67 ?_
              refine lv_iload hx hb dX10_nearestAncestor_70 (lv_at hl 3 rfl) ?_
              obtain ⟨h9, hf⟩ := gd_s hf
              refine va_iald hx hb hE.1 hP 0 0 rfl rfl h9 dX10_nearestAncestor_72 ?_
              refine lv_aload_n hx hb dX10_nearestAncestor_73 rfl (lv_at hl 0 rfl) ?_
              refine va_get (D := (dC, dI)) (ci := 10) (v := .ref (ad 9)) (C := RX10) (T := TX10) (N := 37) hx hb htg inX10 hown hE.1 hP 2 rfl rfl 8 (by decide) (htg _ tw1390) (fun _ h9 => h9) rfl dX10_nearestAncestor_74 ?_
              refine lv_iload hx hb dX10_nearestAncestor_77 (lv_at hl 2 rfl) ?_
              obtain ⟨h9, hf⟩ := gd_s hf
              refine va_iald hx hb hE.1 hP 0 0 rfl rfl h9 dX10_nearestAncestor_79 ?_
              refine lv_icmp_le (tgt := 88) hx hb dX10_nearestAncestor_80 (by decide) (fun h9 => ?_) (fun h9 => ?_)
              · have hf := itt h9 hf
                refine lv_iload hx hb dX10_nearestAncestor_88 (lv_at hl 2 rfl) ?_
                refine lv_istore (lv' := [(4, .int v4_41), (0, .ref (ad 0)), (3, .int t34), (5, .int v5_41)]) hx hb dX10_nearestAncestor_90 hl (by decide) rfl (fun ls hl => ?_)
                obtain ⟨t92, h9⟩ : ∃ z : Int32, z = (v5_41 + (1 : Int32)) := ⟨_, rfl⟩
                have hf := lb_e h9 hf
                refine lv_iinc (v := t92) (lv' := [(5, .int t92), (4, .int v4_41), (0, .ref (ad 0)), (3, .int t34)]) hx hb dX10_nearestAncestor_92 hl (k := 3) rfl (by rw [h9]; rfl) (by decide) rfl (fun ls hl => ?_)
                refine lv_goto (tgt := 41) hx hb dX10_nearestAncestor_95 (by decide) ?_
                exact ih41 v4_41 t92 ex41 H locs ls hf hk41 (hP.sub [2, 3, 0, 1] rfl) (hD.sub [2, 3, 0, 1] (by decide) rfl) hS (lv_sub hl [2, 3, 1, 0] rfl)
              · have hf := itf h9 hf
                refine lv_iload hx hb dX10_nearestAncestor_83 (lv_at hl 3 rfl) ?_
                refine lv_goto (tgt := 90) hx hb dX10_nearestAncestor_85 (by decide) ?_
                refine lv_istore (lv' := [(4, .int v5_41), (0, .ref (ad 0)), (3, .int t34), (5, .int v5_41)]) hx hb dX10_nearestAncestor_90 hl (by decide) rfl (fun ls hl => ?_)
                obtain ⟨t92, h9⟩ : ∃ z : Int32, z = (v5_41 + (1 : Int32)) := ⟨_, rfl⟩
                have hf := lb_e h9 hf
                refine lv_iinc (v := t92) (lv' := [(5, .int t92), (4, .int v5_41), (0, .ref (ad 0)), (3, .int t34)]) hx hb dX10_nearestAncestor_92 hl (k := 3) rfl (by rw [h9]; rfl) (by decide) rfl (fun ls hl => ?_)
                refine lv_goto (tgt := 41) hx hb dX10_nearestAncestor_95 (by decide) ?_
                exact ih41 v5_41 t92 ex41 H locs ls hf hk41 (hP.sub [2, 3, 0, 1] rfl) (hD.sub [2, 3, 0, 1] (by decide) rfl) hS (lv_sub hl [2, 3, 1, 0] rfl)
    obtain ⟨ex, h9, hf⟩ := ob_s hf
    exact K41 FU (-1 : Int32) (0 : Int32) ex H locs ls h9 hf (hP.sub [2, 3, 0, 1] rfl) (hD.sub [2, 3, 0, 1] (by decide) rfl) hS (lv_sub hl [3, 2, 1, 0] rfl)
  · have hf := ctf (bI_0 h9) hf
    refine lv_iconst (v := 0) hx hb dX10_nearestAncestor_9 (by decide) ?_
    cases hf
    exact g_iret S hr hlocks (hP.sub [2, 3, 0, 1] rfl) (hD.sub [2, 3, 0, 1] (by decide) rfl) hS dX10_nearestAncestor_10
set_option maxHeartbeats 4000000 in
set_option maxRecDepth 100000 in
theorem c_X10_collapse (ad : Nat → Nat) (a_m_fam : Nat) (m_undoCount : Int32) (m_thrown : Int32) (m_hasSnapshot : Bool) (m_rows : Int32) (m_lineLength : Int32) (m_formattedLength : Int32) (m_bufferLength : Int32) (m_limit : Int32) (m_next : Int32) (m_beginsAt : Int32) (m_token : Int32) (m_error : Int32) (m_errorAt : Int32) (m_errorPosition : Int32) (m_nested : Int32) (m_codeCount : Int32) (m_fam : Nat → Int64) (m_further : Nat → Int32) (m_ways : Nat → Int32) (v1 : Int32) (v2 : Int32) (r9 : Int32) (m_further_9 : Nat → Int32) (m_thrown_9 : Int32) (m_ways_9 : Nat → Int32) (hf : p10_collapse m_fam m_further m_ways v1 v2 = some (r9, m_further_9, m_thrown_9, m_ways_9)) : gM l dC dI cI cJ cZ yX10_collapse cX10_collapse 5 (some .int) (3) (65) [.ref (ad 0), .int v1, .int v2] [(ad 0, .inr (10, oM ad m_undoCount m_thrown m_hasSnapshot a_m_fam m_rows m_lineLength m_formattedLength m_bufferLength m_limit m_next m_beginsAt m_token m_error m_errorAt m_errorPosition m_nested m_codeCount)), (a_m_fam, .inl (cJ, 130, .inr (.inl m_fam))), ((ad 21), .inl (cI, 16, .inl m_further)), ((ad 20), .inl (cI, 16, .inl m_ways))] [(ad 0, .inr (10, oM ad m_undoCount m_thrown_9 m_hasSnapshot a_m_fam m_rows m_lineLength m_formattedLength m_bufferLength m_limit m_next m_beginsAt m_token m_error m_errorAt m_errorPosition m_nested m_codeCount)), (a_m_fam, .inl (cJ, 130, .inr (.inl m_fam))), ((ad 21), .inl (cI, 16, .inl m_further_9)), ((ad 20), .inl (cI, 16, .inl m_ways_9))] (some (.int r9)) := by
  refine g_start (own := RX10) (by decide +kernel) rfl (Nat.le_of_ble_eq_true rfl) ?_
  intro p e s m below meth c A ls S hr hlocks hE hP hD hS hA hl hin
  have hx := S.1
  have hb := S.2.1
  have hml := S.2.2.1
  have hown := S.2.2.2.1
  have htg : ∀ z ∈ gw, z.before ([.ref (ad 0), .int v1, .int v2] : List Value).toArray s = true := fun w h => S.2.2.2.2 w (List.mem_cons_of_mem _ h)
  have hl : lv_has ls 5 [(0, .ref (ad 0)), (1, .int v1), (2, .int v2)] := hl
  have hS0 := hS
  obtain ⟨H, hH⟩ : ∃ H, H = s.heap := ⟨_, rfl⟩
  obtain ⟨locs, hlc⟩ : ∃ locs : List Loc, locs = [] := ⟨_, rfl⟩
  have hS : va_S A s.heap H locs := by rw [hH, hlc]; exact hS0
  have hP : va_P (dC, dI) vwCl [(ad 0, .inr (10, oM ad m_undoCount m_thrown m_hasSnapshot a_m_fam m_rows m_lineLength m_formattedLength m_bufferLength m_limit m_next m_beginsAt m_token m_error m_errorAt m_errorPosition m_nested m_codeCount)), (a_m_fam, .inl (cJ, 130, .inr (.inl m_fam))), ((ad 21), .inl (cI, 16, .inl m_further)), ((ad 20), .inl (cI, 16, .inl m_ways))] H := by rw [hH]; exact hP
  suffices hgo : W p l e ({ frames := 3, cells := 0, slots := 0, locals := 65 }) s m ([.ref (ad 0), .int v1, .int v2] : List Value).toArray below meth c H locs 0 0 (MQ below (gQ dC dI (some (.int r9)) A [(ad 0, .inr (10, oM ad m_undoCount m_thrown_9 m_hasSnapshot a_m_fam m_rows m_lineLength m_formattedLength m_bufferLength m_limit m_next m_beginsAt m_token m_error m_errorAt m_errorPosition m_nested m_codeCount)), (a_m_fam, .inl (cJ, 130, .inr (.inl m_fam))), ((ad 21), .inl (cI, 16, .inl m_further_9)), ((ad 20), .inl (cI, 16, .inl m_ways_9))]) ([.ref (ad 0), .int v1, .int v2] : List Value).toArray s 0 0 A) (F0 m 0 ls []) by rw [hH, hlc] at hgo; exact hgo
  rw [p10_collapse] at hf
  have J108 : ∀ (v3_108 : Int32) (m_thrown_108 : Int32) (m_further_108 : Nat → Int32) (m_ways_108 : Nat → Int32) (H : Heap) (locs : List Loc) (ls : Array Slot), p10_collapse_J108 v3_108 m_thrown_108 m_further_108 m_ways_108 = some (r9, m_further_9, m_thrown_9, m_ways_9) → va_P (dC, dI) vwCl [(ad 0, .inr (10, oM ad m_undoCount m_thrown_108 m_hasSnapshot a_m_fam m_rows m_lineLength m_formattedLength m_bufferLength m_limit m_next m_beginsAt m_token m_error m_errorAt m_errorPosition m_nested m_codeCount)), (a_m_fam, .inl (cJ, 130, .inr (.inl m_fam))), ((ad 21), .inl (cI, 16, .inl m_further_108)), ((ad 20), .inl (cI, 16, .inl m_ways_108))] H → va_D A [(ad 0, .inr (10, oM ad m_undoCount m_thrown_108 m_hasSnapshot a_m_fam m_rows m_lineLength m_formattedLength m_bufferLength m_limit m_next m_beginsAt m_token m_error m_errorAt m_errorPosition m_nested m_codeCount)), (a_m_fam, .inl (cJ, 130, .inr (.inl m_fam))), ((ad 21), .inl (cI, 16, .inl m_further_108)), ((ad 20), .inl (cI, 16, .inl m_ways_108))] → va_S A s.heap H locs → lv_has ls 5 [(3, .int v3_108)] → W p l e ({ frames := 3, cells := 0, slots := 0, locals := 65 }) s m ([.ref (ad 0), .int v1, .int v2] : List Value).toArray below meth c H locs 0 0 (MQ below (gQ dC dI (some (.int r9)) A [(ad 0, .inr (10, oM ad m_undoCount m_thrown_9 m_hasSnapshot a_m_fam m_rows m_lineLength m_formattedLength m_bufferLength m_limit m_next m_beginsAt m_token m_error m_errorAt m_errorPosition m_nested m_codeCount)), (a_m_fam, .inl (cJ, 130, .inr (.inl m_fam))), ((ad 21), .inl (cI, 16, .inl m_further_9)), ((ad 20), .inl (cI, 16, .inl m_ways_9))]) ([.ref (ad 0), .int v1, .int v2] : List Value).toArray s 0 0 A) (F0 m 108 ls []) := by
    intro v3_108 m_thrown_108 m_further_108 m_ways_108 H locs ls hf hP hD hS hl
    rw [p10_collapse_J108] at hf
    refine lv_iload_n hx hb dX10_collapse_108 rfl (lv_at hl 0 rfl) ?_
    cases hf
    exact g_iret S hr hlocks hP hD hS dX10_collapse_109
  have J64 : ∀ (m_thrown_64 : Int32) (m_further_64 : Nat → Int32) (m_ways_64 : Nat → Int32) (H : Heap) (locs : List Loc) (ls : Array Slot), p10_collapse_J64 m_thrown_64 m_further_64 m_ways_64 = some (r9, m_further_9, m_thrown_9, m_ways_9) → va_P (dC, dI) vwCl [(ad 0, .inr (10, oM ad m_undoCount m_thrown_64 m_hasSnapshot a_m_fam m_rows m_lineLength m_formattedLength m_bufferLength m_limit m_next m_beginsAt m_token m_error m_errorAt m_errorPosition m_nested m_codeCount)), (a_m_fam, .inl (cJ, 130, .inr (.inl m_fam))), ((ad 21), .inl (cI, 16, .inl m_further_64)), ((ad 20), .inl (cI, 16, .inl m_ways_64))] H → va_D A [(ad 0, .inr (10, oM ad m_undoCount m_thrown_64 m_hasSnapshot a_m_fam m_rows m_lineLength m_formattedLength m_bufferLength m_limit m_next m_beginsAt m_token m_error m_errorAt m_errorPosition m_nested m_codeCount)), (a_m_fam, .inl (cJ, 130, .inr (.inl m_fam))), ((ad 21), .inl (cI, 16, .inl m_further_64)), ((ad 20), .inl (cI, 16, .inl m_ways_64))] → va_S A s.heap H locs → lv_has ls 5 [(0, .ref (ad 0))] → W p l e ({ frames := 3, cells := 0, slots := 0, locals := 65 }) s m ([.ref (ad 0), .int v1, .int v2] : List Value).toArray below meth c H locs 0 0 (MQ below (gQ dC dI (some (.int r9)) A [(ad 0, .inr (10, oM ad m_undoCount m_thrown_9 m_hasSnapshot a_m_fam m_rows m_lineLength m_formattedLength m_bufferLength m_limit m_next m_beginsAt m_token m_error m_errorAt m_errorPosition m_nested m_codeCount)), (a_m_fam, .inl (cJ, 130, .inr (.inl m_fam))), ((ad 21), .inl (cI, 16, .inl m_further_9)), ((ad 20), .inl (cI, 16, .inl m_ways_9))]) ([.ref (ad 0), .int v1, .int v2] : List Value).toArray s 0 0 A) (F0 m 64 ls []) := by
    intro m_thrown_64 m_further_64 m_ways_64 H locs ls hf hP hD hS hl
    rw [p10_collapse_J64] at hf
    refine lv_iconst (v := 0) hx hb dX10_collapse_64 (by decide) ?_
    refine lv_istore_n (lv' := [(3, .int (0 : Int32)), (0, .ref (ad 0))]) hx hb dX10_collapse_65 rfl hl (by decide) rfl (fun ls hl => ?_)
    refine lv_iconst (v := 0) hx hb dX10_collapse_66 (by decide) ?_
    refine lv_istore (lv' := [(4, .int (0 : Int32)), (3, .int (0 : Int32)), (0, .ref (ad 0))]) hx hb dX10_collapse_67 hl (by decide) rfl (fun ls hl => ?_)
    have K69 : ∀ (n69 : Nat) (v3_69 : Int32) (v4_69 : Int32) (ex69 : Int32) (H : Heap) (locs : List Loc) (ls : Array Slot), p10_collapse_L69 m_ways_64 n69 v3_69 v4_69 = some ex69 → (fun v3_x69 => p10_collapse_J108 v3_x69 m_thrown_64 m_further_64 m_ways_64) ex69 = some (r9, m_further_9, m_thrown_9, m_ways_9) → va_P (dC, dI) vwCl [(ad 0, .inr (10, oM ad m_undoCount m_thrown_64 m_hasSnapshot a_m_fam m_rows m_lineLength m_formattedLength m_bufferLength m_limit m_next m_beginsAt m_token m_error m_errorAt m_errorPosition m_nested m_codeCount)), (a_m_fam, .inl (cJ, 130, .inr (.inl m_fam))), ((ad 21), .inl (cI, 16, .inl m_further_64)), ((ad 20), .inl (cI, 16, .inl m_ways_64))] H → va_D A [(ad 0, .inr (10, oM ad m_undoCount m_thrown_64 m_hasSnapshot a_m_fam m_rows m_lineLength m_formattedLength m_bufferLength m_limit m_next m_beginsAt m_token m_error m_errorAt m_errorPosition m_nested m_codeCount)), (a_m_fam, .inl (cJ, 130, .inr (.inl m_fam))), ((ad 21), .inl (cI, 16, .inl m_further_64)), ((ad 20), .inl (cI, 16, .inl m_ways_64))] → va_S A s.heap H locs → lv_has ls 5 [(0, .ref (ad 0)), (3, .int v3_69), (4, .int v4_69)] → W p l e ({ frames := 3, cells := 0, slots := 0, locals := 65 }) s m ([.ref (ad 0), .int v1, .int v2] : List Value).toArray below meth c H locs 0 0 (MQ below (gQ dC dI (some (.int r9)) A [(ad 0, .inr (10, oM ad m_undoCount m_thrown_9 m_hasSnapshot a_m_fam m_rows m_lineLength m_formattedLength m_bufferLength m_limit m_next m_beginsAt m_token m_error m_errorAt m_errorPosition m_nested m_codeCount)), (a_m_fam, .inl (cJ, 130, .inr (.inl m_fam))), ((ad 21), .inl (cI, 16, .inl m_further_9)), ((ad 20), .inl (cI, 16, .inl m_ways_9))]) ([.ref (ad 0), .int v1, .int v2] : List Value).toArray s 0 0 A) (F0 m 69 ls []) := by
      intro n69
      induction n69 with
      | zero => intro v3_69 v4_69 ex69 H locs ls hf; rw [p10_collapse_L69] at hf; cases hf
      | succ n69 ih69 =>
        intro v3_69 v4_69 ex69 H locs ls hf hk69 hP hD hS hl
        rw [p10_collapse_L69, p10_collapse_L69_B] at hf
        refine lv_iload hx hb dX10_collapse_69 (lv_at hl 2 rfl) ?_
        refine lv_bipush (v := 16) hx hb dX10_collapse_71 (by decide) ?_
        refine lv_icmp_ge (tgt := 108) hx hb dX10_collapse_73 (by decide) (fun h9 => ?_) (fun h9 => ?_)
        · have hf := itt h9 hf
          cases hf
          have hf := hk69
          exact J108 v3_69 m_thrown_64 m_further_64 m_ways_64 H locs ls hf hP hD hS (lv_sub hl [1] rfl)
        · have hf := itf h9 hf
          refine lv_iload_n hx hb dX10_collapse_76 rfl (lv_at hl 1 rfl) ?_
          refine lv_aload_n hx hb dX10_collapse_77 rfl (lv_at hl 0 rfl) ?_
          refine va_get (D := (dC, dI)) (ci := 10) (v := .ref (ad 20)) (C := RX10) (T := TX10) (N := 37) hx hb htg inX10 hown hE.1 hP 0 rfl rfl 19 (by decide) (htg _ tw1401) (fun _ h9 => h9) rfl dX10_collapse_78 ?_
          refine lv_iload hx hb dX10_collapse_81 (lv_at hl 2 rfl) ?_
          obtain ⟨h9, hf⟩ := gd_s hf
          refine va_iald hx hb hE.1 hP 3 0 rfl rfl h9 dX10_collapse_83 ?_
          refine lv_if_le (tgt := 99) hx hb dX10_collapse_84 (by decide) (fun h9 => ?_) (fun h9 => ?_)
          · have hf := itt h9 hf
            refine lv_iconst (v := 0) hx hb dX10_collapse_99 (by decide) ?_
            refine lv_iadd hx hb dX10_collapse_100 ?_
            refine lv_topi (fun t101 h9 => ?_)
            have hf := lb_e h9 hf
            refine lv_istore_n (lv' := [(3, .int t101), (0, .ref (ad 0)), (4, .int v4_69)]) hx hb dX10_collapse_101 rfl hl (by decide) rfl (fun ls hl => ?_)
            obtain ⟨t102, h9⟩ : ∃ z : Int32, z = (v4_69 + (1 : Int32)) := ⟨_, rfl⟩
            have hf := lb_e h9 hf
            refine lv_iinc (v := t102) (lv' := [(4, .int t102), (3, .int t101), (0, .ref (ad 0))]) hx hb dX10_collapse_102 hl (k := 2) rfl (by rw [h9]; rfl) (by decide) rfl (fun ls hl => ?_)
            refine lv_goto (tgt := 69) hx hb dX10_collapse_105 (by decide) ?_
            exact ih69 t101 t102 ex69 H locs ls hf hk69 hP hD hS (lv_sub hl [2, 1, 0] rfl)
          · have hf := itf h9 hf
            refine lv_aload_n hx hb dX10_collapse_87 rfl (lv_at hl 0 rfl) ?_
            refine va_get (D := (dC, dI)) (ci := 10) (v := .ref (ad 20)) (C := RX10) (T := TX10) (N := 37) hx hb htg inX10 hown hE.1 hP 0 rfl rfl 19 (by decide) (htg _ tw1401) (fun _ h9 => h9) rfl dX10_collapse_88 ?_
            refine lv_iload hx hb dX10_collapse_91 (lv_at hl 2 rfl) ?_
            obtain ⟨h9, hf⟩ := gd_s hf
            refine va_iald hx hb hE.1 hP 3 0 rfl rfl h9 dX10_collapse_93 ?_
            refine lv_iconst (v := 1) hx hb dX10_collapse_94 (by decide) ?_
            refine lv_isub hx hb dX10_collapse_95 ?_
            refine lv_goto (tgt := 100) hx hb dX10_collapse_96 (by decide) ?_
            refine lv_iadd hx hb dX10_collapse_100 ?_
            refine lv_topi (fun t101 h9 => ?_)
            have hf := lb_e h9 hf
            refine lv_istore_n (lv' := [(3, .int t101), (0, .ref (ad 0)), (4, .int v4_69)]) hx hb dX10_collapse_101 rfl hl (by decide) rfl (fun ls hl => ?_)
            obtain ⟨t102, h9⟩ : ∃ z : Int32, z = (v4_69 + (1 : Int32)) := ⟨_, rfl⟩
            have hf := lb_e h9 hf
            refine lv_iinc (v := t102) (lv' := [(4, .int t102), (3, .int t101), (0, .ref (ad 0))]) hx hb dX10_collapse_102 hl (k := 2) rfl (by rw [h9]; rfl) (by decide) rfl (fun ls hl => ?_)
            refine lv_goto (tgt := 69) hx hb dX10_collapse_105 (by decide) ?_
            exact ih69 t101 t102 ex69 H locs ls hf hk69 hP hD hS (lv_sub hl [2, 1, 0] rfl)
    obtain ⟨ex, h9, hf⟩ := ob_s hf
    exact K69 FU (0 : Int32) (0 : Int32) ex H locs ls h9 hf hP hD hS (lv_sub hl [2, 1, 0] rfl)
  have J33 : ∀ (m_thrown_33 : Int32) (H : Heap) (locs : List Loc) (ls : Array Slot), p10_collapse_J33 m_fam m_further m_ways v1 v2 m_thrown_33 = some (r9, m_further_9, m_thrown_9, m_ways_9) → va_P (dC, dI) vwCl [(ad 0, .inr (10, oM ad m_undoCount m_thrown_33 m_hasSnapshot a_m_fam m_rows m_lineLength m_formattedLength m_bufferLength m_limit m_next m_beginsAt m_token m_error m_errorAt m_errorPosition m_nested m_codeCount)), (a_m_fam, .inl (cJ, 130, .inr (.inl m_fam))), ((ad 21), .inl (cI, 16, .inl m_further)), ((ad 20), .inl (cI, 16, .inl m_ways))] H → va_D A [(ad 0, .inr (10, oM ad m_undoCount m_thrown_33 m_hasSnapshot a_m_fam m_rows m_lineLength m_formattedLength m_bufferLength m_limit m_next m_beginsAt m_token m_error m_errorAt m_errorPosition m_nested m_codeCount)), (a_m_fam, .inl (cJ, 130, .inr (.inl m_fam))), ((ad 21), .inl (cI, 16, .inl m_further)), ((ad 20), .inl (cI, 16, .inl m_ways))] → va_S A s.heap H locs → lv_has ls 5 [(0, .ref (ad 0)), (1, .int v1), (2, .int v2)] → W p l e ({ frames := 3, cells := 0, slots := 0, locals := 65 }) s m ([.ref (ad 0), .int v1, .int v2] : List Value).toArray below meth c H locs 0 0 (MQ below (gQ dC dI (some (.int r9)) A [(ad 0, .inr (10, oM ad m_undoCount m_thrown_9 m_hasSnapshot a_m_fam m_rows m_lineLength m_formattedLength m_bufferLength m_limit m_next m_beginsAt m_token m_error m_errorAt m_errorPosition m_nested m_codeCount)), (a_m_fam, .inl (cJ, 130, .inr (.inl m_fam))), ((ad 21), .inl (cI, 16, .inl m_further_9)), ((ad 20), .inl (cI, 16, .inl m_ways_9))]) ([.ref (ad 0), .int v1, .int v2] : List Value).toArray s 0 0 A) (F0 m 33 ls []) := by
    intro m_thrown_33 H locs ls hf hP hD hS hl
    rw [p10_collapse_J33] at hf
    refine lv_aload_n hx hb dX10_collapse_33 rfl (lv_at hl 0 rfl) ?_
    refine va_get (D := (dC, dI)) (ci := 10) (v := .int m_thrown_33) (C := RX10) (T := TX10) (N := 37) hx hb htg inX10 hown hE.1 hP 0 rfl rfl 5 (by decide) (htg _ tw1387) (fun _ h9 => h9) rfl dX10_collapse_34 ?_
    refine lv_if_eq (tgt := 42) hx hb dX10_collapse_37 (by decide) (fun h9 => ?_) (fun h9 => ?_)
    · have hf := itt h9 hf
      refine lv_aload_n hx hb dX10_collapse_42 rfl (lv_at hl 0 rfl) ?_
      refine lv_iload_n hx hb dX10_collapse_43 rfl (lv_at hl 1 rfl) ?_
      obtain ⟨m_ways_44, h9, hf⟩ := ob_s hf
      refine gcV (index := 281) S hE (c_X10_beginWays ad a_m_fam m_undoCount m_thrown_33 m_hasSnapshot m_rows m_lineLength m_formattedLength m_bufferLength m_limit m_next m_beginsAt m_token m_error m_errorAt m_errorPosition m_nested m_codeCount m_ways v1 m_ways_44 h9) mX10_beginWays tw1695 ⟨Nat.le_of_ble_eq_true rfl, Nat.le_of_ble_eq_true rfl⟩ hP hD hS hA ⟨Nat.zero_le _, Nat.zero_le _⟩ 0 10 rfl rfl rfl (wr := [(a_m_fam, .inl (cJ, 130, .inr (.inl m_fam))), ((ad 21), .inl (cI, 16, .inl m_further))]) [0, 3] [1, 2] rfl rfl rfl rfl (by decide) (As := [.int v1]) (rest := []) rfl hl.1 rfl (Nat.le_of_ble_eq_true rfl) dX10_collapse_44 (fun H locs hP hD hS => ?_)
      refine W.eq (g2 := F0 m 47 ls []) rfl ?_
      have hP : va_P (dC, dI) vwCl [(a_m_fam, .inl (cJ, 130, .inr (.inl m_fam))), ((ad 21), .inl (cI, 16, .inl m_further)), (ad 0, .inr (10, oM ad m_undoCount m_thrown_33 m_hasSnapshot a_m_fam m_rows m_lineLength m_formattedLength m_bufferLength m_limit m_next m_beginsAt m_token m_error m_errorAt m_errorPosition m_nested m_codeCount)), ((ad 20), .inl (cI, 16, .inl m_ways_44))] H := hP
      have hD : va_D A [(a_m_fam, .inl (cJ, 130, .inr (.inl m_fam))), ((ad 21), .inl (cI, 16, .inl m_further)), (ad 0, .inr (10, oM ad m_undoCount m_thrown_33 m_hasSnapshot a_m_fam m_rows m_lineLength m_formattedLength m_bufferLength m_limit m_next m_beginsAt m_token m_error m_errorAt m_errorPosition m_nested m_codeCount)), ((ad 20), .inl (cI, 16, .inl m_ways_44))] := hD
      refine lv_iconst (v := 0) hx hb dX10_collapse_47 (by decide) ?_
      refine lv_istore_n (lv' := [(3, .int (0 : Int32)), (0, .ref (ad 0)), (1, .int v1), (2, .int v2)]) hx hb dX10_collapse_48 rfl hl (by decide) rfl (fun ls hl => ?_)
      have K49 : ∀ (n49 : Nat) (v3_49 : Int32) (m_further_49 : Nat → Int32) (m_ways_49 : Nat → Int32) (ex49 : (Nat → Int32) × (Nat → Int32)) (H : Heap) (locs : List Loc) (ls : Array Slot), p10_collapse_L49 m_fam v2 n49 v3_49 m_further_49 m_ways_49 = some ex49 → (uc2 fun m_further_x49 m_ways_x49 => p10_collapse_J64 m_thrown_33 m_further_x49 m_ways_x49) ex49 = some (r9, m_further_9, m_thrown_9, m_ways_9) → va_P (dC, dI) vwCl [(ad 0, .inr (10, oM ad m_undoCount m_thrown_33 m_hasSnapshot a_m_fam m_rows m_lineLength m_formattedLength m_bufferLength m_limit m_next m_beginsAt m_token m_error m_errorAt m_errorPosition m_nested m_codeCount)), (a_m_fam, .inl (cJ, 130, .inr (.inl m_fam))), ((ad 21), .inl (cI, 16, .inl m_further_49)), ((ad 20), .inl (cI, 16, .inl m_ways_49))] H → va_D A [(ad 0, .inr (10, oM ad m_undoCount m_thrown_33 m_hasSnapshot a_m_fam m_rows m_lineLength m_formattedLength m_bufferLength m_limit m_next m_beginsAt m_token m_error m_errorAt m_errorPosition m_nested m_codeCount)), (a_m_fam, .inl (cJ, 130, .inr (.inl m_fam))), ((ad 21), .inl (cI, 16, .inl m_further_49)), ((ad 20), .inl (cI, 16, .inl m_ways_49))] → va_S A s.heap H locs → lv_has ls 5 [(0, .ref (ad 0)), (2, .int v2), (3, .int v3_49)] → W p l e ({ frames := 3, cells := 0, slots := 0, locals := 65 }) s m ([.ref (ad 0), .int v1, .int v2] : List Value).toArray below meth c H locs 0 0 (MQ below (gQ dC dI (some (.int r9)) A [(ad 0, .inr (10, oM ad m_undoCount m_thrown_9 m_hasSnapshot a_m_fam m_rows m_lineLength m_formattedLength m_bufferLength m_limit m_next m_beginsAt m_token m_error m_errorAt m_errorPosition m_nested m_codeCount)), (a_m_fam, .inl (cJ, 130, .inr (.inl m_fam))), ((ad 21), .inl (cI, 16, .inl m_further_9)), ((ad 20), .inl (cI, 16, .inl m_ways_9))]) ([.ref (ad 0), .int v1, .int v2] : List Value).toArray s 0 0 A) (F0 m 49 ls []) := by
        intro n49
        induction n49 with
        | zero => intro v3_49 m_further_49 m_ways_49 ex49 H locs ls hf; rw [p10_collapse_L49] at hf; cases hf
        | succ n49 ih49 =>
          intro v3_49 m_further_49 m_ways_49 ex49 H locs ls hf hk49 hP hD hS hl
          rw [p10_collapse_L49, p10_collapse_L49_B] at hf
          refine lv_iload_n hx hb dX10_collapse_49 rfl (lv_at hl 2 rfl) ?_
          refine lv_iload_n hx hb dX10_collapse_50 rfl (lv_at hl 1 rfl) ?_
          refine lv_icmp_ge (tgt := 64) hx hb dX10_collapse_51 (by decide) (fun h9 => ?_) (fun h9 => ?_)
          · have hf := itt h9 hf
            cases hf
            have hf := hk49
            have hf := uc2_e hf
            exact J64 m_thrown_33 m_further_49 m_ways_49 H locs ls hf hP hD hS (lv_sub hl [0] rfl)
          · have hf := itf h9 hf
            refine lv_aload_n hx hb dX10_collapse_54 rfl (lv_at hl 0 rfl) ?_
            obtain ⟨⟨m_further_55, m_ways_55⟩, h9, hf⟩ := ob_s hf
            have hf := uc2_e hf
            refine gcV (index := 284) S hE (c_X10_stepUp ad a_m_fam m_undoCount m_thrown_33 m_hasSnapshot m_rows m_lineLength m_formattedLength m_bufferLength m_limit m_next m_beginsAt m_token m_error m_errorAt m_errorPosition m_nested m_codeCount m_fam m_further_49 m_ways_49 m_further_55 m_ways_55 h9) mX10_stepUp tw1699 ⟨Nat.le_of_ble_eq_true rfl, Nat.le_of_ble_eq_true rfl⟩ hP hD hS hA ⟨Nat.zero_le _, Nat.zero_le _⟩ 0 10 rfl rfl rfl (wr := []) [0, 1, 2, 3] [] rfl rfl rfl rfl (by decide) (As := []) (rest := []) rfl hl.1 rfl (Nat.le_of_ble_eq_true rfl) dX10_collapse_55 (fun H locs hP hD hS => ?_)
            refine W.eq (g2 := F0 m 58 ls []) rfl ?_
            have hP : va_P (dC, dI) vwCl [(ad 0, .inr (10, oM ad m_undoCount m_thrown_33 m_hasSnapshot a_m_fam m_rows m_lineLength m_formattedLength m_bufferLength m_limit m_next m_beginsAt m_token m_error m_errorAt m_errorPosition m_nested m_codeCount)), (a_m_fam, .inl (cJ, 130, .inr (.inl m_fam))), ((ad 21), .inl (cI, 16, .inl m_further_55)), ((ad 20), .inl (cI, 16, .inl m_ways_55))] H := hP
            have hD : va_D A [(ad 0, .inr (10, oM ad m_undoCount m_thrown_33 m_hasSnapshot a_m_fam m_rows m_lineLength m_formattedLength m_bufferLength m_limit m_next m_beginsAt m_token m_error m_errorAt m_errorPosition m_nested m_codeCount)), (a_m_fam, .inl (cJ, 130, .inr (.inl m_fam))), ((ad 21), .inl (cI, 16, .inl m_further_55)), ((ad 20), .inl (cI, 16, .inl m_ways_55))] := hD
            obtain ⟨t58, h9⟩ : ∃ z : Int32, z = (v3_49 + (1 : Int32)) := ⟨_, rfl⟩
            have hf := lb_e h9 hf
            refine lv_iinc (v := t58) (lv' := [(3, .int t58), (0, .ref (ad 0)), (2, .int v2)]) hx hb dX10_collapse_58 hl (k := 2) rfl (by rw [h9]; rfl) (by decide) rfl (fun ls hl => ?_)
            refine lv_goto (tgt := 49) hx hb dX10_collapse_61 (by decide) ?_
            exact ih49 t58 m_further_55 m_ways_55 ex49 H locs ls hf hk49 hP hD hS (lv_sub hl [1, 2, 0] rfl)
      obtain ⟨ex, h9, hf⟩ := ob_s hf
      exact K49 FU (0 : Int32) m_further m_ways_44 ex H locs ls h9 hf (hP.sub [2, 0, 1, 3] rfl) (hD.sub [2, 0, 1, 3] (by decide) rfl) hS (lv_sub hl [1, 3, 0] rfl)
    · have hf := itf h9 hf
      refine lv_iconst (v := 0) hx hb dX10_collapse_40 (by decide) ?_
      cases hf
      exact g_iret S hr hlocks hP hD hS dX10_collapse_41
  refine lv_aload_n hx hb dX10_collapse_0 rfl (lv_at hl 0 rfl) ?_
  refine lv_aload_n hx hb dX10_collapse_1 rfl (lv_at hl 0 rfl) ?_
  refine lv_iload_n hx hb dX10_collapse_2 rfl (lv_at hl 1 rfl) ?_
  obtain ⟨r3, h9, hf⟩ := ob_s hf
  refine gcV (index := 234) S hE (c_X10_isPerson ad a_m_fam m_undoCount m_thrown m_hasSnapshot m_rows m_lineLength m_formattedLength m_bufferLength m_limit m_next m_beginsAt m_token m_error m_errorAt m_errorPosition m_nested m_codeCount m_fam v1 r3 h9) mX10_isPerson tw1576 ⟨Nat.le_of_ble_eq_true rfl, Nat.le_of_ble_eq_true rfl⟩ hP hD hS hA ⟨Nat.zero_le _, Nat.zero_le _⟩ 0 10 rfl rfl rfl (wr := [((ad 21), .inl (cI, 16, .inl m_further)), ((ad 20), .inl (cI, 16, .inl m_ways))]) [0, 1] [2, 3] rfl rfl rfl rfl (by decide) (As := [.int v1]) (rest := [.ref (ad 0)]) rfl hl.1 rfl (Nat.le_of_ble_eq_true rfl) dX10_collapse_3 (fun H locs hP hD hS => ?_)
  refine W.eq (g2 := F0 m 6 ls [.int (bI r3), .ref (ad 0)]) rfl ?_
  have hP : va_P (dC, dI) vwCl [((ad 21), .inl (cI, 16, .inl m_further)), ((ad 20), .inl (cI, 16, .inl m_ways)), (ad 0, .inr (10, oM ad m_undoCount m_thrown m_hasSnapshot a_m_fam m_rows m_lineLength m_formattedLength m_bufferLength m_limit m_next m_beginsAt m_token m_error m_errorAt m_errorPosition m_nested m_codeCount)), (a_m_fam, .inl (cJ, 130, .inr (.inl m_fam)))] H := hP
  have hD : va_D A [((ad 21), .inl (cI, 16, .inl m_further)), ((ad 20), .inl (cI, 16, .inl m_ways)), (ad 0, .inr (10, oM ad m_undoCount m_thrown m_hasSnapshot a_m_fam m_rows m_lineLength m_formattedLength m_bufferLength m_limit m_next m_beginsAt m_token m_error m_errorAt m_errorPosition m_nested m_codeCount)), (a_m_fam, .inl (cJ, 130, .inr (.inl m_fam)))] := hD
  refine lv_if_ne (tgt := 13) hx hb dX10_collapse_6 (by decide) (fun h9 => ?_) (fun h9 => ?_)
  · have hf := ctt (bI_1 h9) hf
    refine lv_iload_n hx hb dX10_collapse_13 rfl (lv_at hl 2 rfl) ?_
    refine lv_i2l hx hb dX10_collapse_14 rfl ?_
    refine lv_lconst (v := 1) hx hb dX10_collapse_15 (by decide) ?_
    refine lv_ldc2 (own := RX10) (v := 15) hx hb hown (htg _ tw1711) dX10_collapse_16 ?_
    refine gcS (index := 106) S hE (c_X10_inRange v2.toInt64 (1 : Int64) (15 : Int64) (p10_inRange v2.toInt64 (1 : Int64) (15 : Int64)) rfl) mX10_inRange tw1580 ⟨Nat.le_of_ble_eq_true rfl, Nat.le_of_ble_eq_true rfl⟩ hP hD hS hA ⟨Nat.zero_le _, Nat.zero_le _⟩ (wr := [((ad 21), .inl (cI, 16, .inl m_further)), ((ad 20), .inl (cI, 16, .inl m_ways)), (ad 0, .inr (10, oM ad m_undoCount m_thrown m_hasSnapshot a_m_fam m_rows m_lineLength m_formattedLength m_bufferLength m_limit m_next m_beginsAt m_token m_error m_errorAt m_errorPosition m_nested m_codeCount)), (a_m_fam, .inl (cJ, 130, .inr (.inl m_fam)))]) [] [0, 1, 2, 3] rfl rfl rfl rfl (by decide) (As := [.long v2.toInt64, .long (1 : Int64), .long (15 : Int64)]) (rest := [.ref (ad 0)]) rfl hl.1 rfl (Nat.le_of_ble_eq_true rfl) dX10_collapse_19 (fun H locs hP hD hS => ?_)
    refine W.eq (g2 := F0 m 22 ls [.int (bI (p10_inRange v2.toInt64 (1 : Int64) (15 : Int64))), .ref (ad 0)]) rfl ?_
    have hP : va_P (dC, dI) vwCl [((ad 21), .inl (cI, 16, .inl m_further)), ((ad 20), .inl (cI, 16, .inl m_ways)), (ad 0, .inr (10, oM ad m_undoCount m_thrown m_hasSnapshot a_m_fam m_rows m_lineLength m_formattedLength m_bufferLength m_limit m_next m_beginsAt m_token m_error m_errorAt m_errorPosition m_nested m_codeCount)), (a_m_fam, .inl (cJ, 130, .inr (.inl m_fam)))] H := hP
    have hD : va_D A [((ad 21), .inl (cI, 16, .inl m_further)), ((ad 20), .inl (cI, 16, .inl m_ways)), (ad 0, .inr (10, oM ad m_undoCount m_thrown m_hasSnapshot a_m_fam m_rows m_lineLength m_formattedLength m_bufferLength m_limit m_next m_beginsAt m_token m_error m_errorAt m_errorPosition m_nested m_codeCount)), (a_m_fam, .inl (cJ, 130, .inr (.inl m_fam)))] := hD
    refine lv_if_eq (tgt := 29) hx hb dX10_collapse_22 (by decide) (fun h9 => ?_) (fun h9 => ?_)
    · have hf := ctf (bI_0 h9) hf
      refine lv_iconst (v := 2) hx hb dX10_collapse_29 (by decide) ?_
      refine va_put (D := (dC, dI)) (ci := 10) (v := .int (2 : Int32)) (ty := .int) (C := RX10) (T := TX10) (N := 37) hx hb htg inX10 tyX10 tyX10_ok nmX10 hown hE.1 hP hD hS 2 rfl rfl 5 (by decide) (htg _ tw1387) (fun _ h9 => h9) rfl (by decide +kernel) rfl rfl (Nat.le_of_ble_eq_true rfl) dX10_collapse_30 (fun H locs hP hD hS => ?_)
      have hP : va_P (dC, dI) vwCl [((ad 21), .inl (cI, 16, .inl m_further)), ((ad 20), .inl (cI, 16, .inl m_ways)), (ad 0, .inr (10, oM ad m_undoCount (2 : Int32) m_hasSnapshot a_m_fam m_rows m_lineLength m_formattedLength m_bufferLength m_limit m_next m_beginsAt m_token m_error m_errorAt m_errorPosition m_nested m_codeCount)), (a_m_fam, .inl (cJ, 130, .inr (.inl m_fam)))] H := hP
      have hD : va_D A [((ad 21), .inl (cI, 16, .inl m_further)), ((ad 20), .inl (cI, 16, .inl m_ways)), (ad 0, .inr (10, oM ad m_undoCount (2 : Int32) m_hasSnapshot a_m_fam m_rows m_lineLength m_formattedLength m_bufferLength m_limit m_next m_beginsAt m_token m_error m_errorAt m_errorPosition m_nested m_codeCount)), (a_m_fam, .inl (cJ, 130, .inr (.inl m_fam)))] := hD
      exact J33 (2 : Int32) H locs ls hf (hP.sub [2, 3, 0, 1] rfl) (hD.sub [2, 3, 0, 1] (by decide) rfl) hS (lv_sub hl [0, 1, 2] rfl)
    · have hf := ctt (bI_1 h9) hf
      refine lv_iconst (v := 0) hx hb dX10_collapse_25 (by decide) ?_
      refine lv_goto (tgt := 30) hx hb dX10_collapse_26 (by decide) ?_
      refine va_put (D := (dC, dI)) (ci := 10) (v := .int (0 : Int32)) (ty := .int) (C := RX10) (T := TX10) (N := 37) hx hb htg inX10 tyX10 tyX10_ok nmX10 hown hE.1 hP hD hS 2 rfl rfl 5 (by decide) (htg _ tw1387) (fun _ h9 => h9) rfl (by decide +kernel) rfl rfl (Nat.le_of_ble_eq_true rfl) dX10_collapse_30 (fun H locs hP hD hS => ?_)
      have hP : va_P (dC, dI) vwCl [((ad 21), .inl (cI, 16, .inl m_further)), ((ad 20), .inl (cI, 16, .inl m_ways)), (ad 0, .inr (10, oM ad m_undoCount (0 : Int32) m_hasSnapshot a_m_fam m_rows m_lineLength m_formattedLength m_bufferLength m_limit m_next m_beginsAt m_token m_error m_errorAt m_errorPosition m_nested m_codeCount)), (a_m_fam, .inl (cJ, 130, .inr (.inl m_fam)))] H := hP
      have hD : va_D A [((ad 21), .inl (cI, 16, .inl m_further)), ((ad 20), .inl (cI, 16, .inl m_ways)), (ad 0, .inr (10, oM ad m_undoCount (0 : Int32) m_hasSnapshot a_m_fam m_rows m_lineLength m_formattedLength m_bufferLength m_limit m_next m_beginsAt m_token m_error m_errorAt m_errorPosition m_nested m_codeCount)), (a_m_fam, .inl (cJ, 130, .inr (.inl m_fam)))] := hD
      exact J33 (0 : Int32) H locs ls hf (hP.sub [2, 3, 0, 1] rfl) (hD.sub [2, 3, 0, 1] (by decide) rfl) hS (lv_sub hl [0, 1, 2] rfl)
  · have hf := ctf (bI_0 h9) hf
    refine lv_iconst (v := 1) hx hb dX10_collapse_9 (by decide) ?_
    refine lv_goto (tgt := 30) hx hb dX10_collapse_10 (by decide) ?_
    refine va_put (D := (dC, dI)) (ci := 10) (v := .int (1 : Int32)) (ty := .int) (C := RX10) (T := TX10) (N := 37) hx hb htg inX10 tyX10 tyX10_ok nmX10 hown hE.1 hP hD hS 2 rfl rfl 5 (by decide) (htg _ tw1387) (fun _ h9 => h9) rfl (by decide +kernel) rfl rfl (Nat.le_of_ble_eq_true rfl) dX10_collapse_30 (fun H locs hP hD hS => ?_)
    have hP : va_P (dC, dI) vwCl [((ad 21), .inl (cI, 16, .inl m_further)), ((ad 20), .inl (cI, 16, .inl m_ways)), (ad 0, .inr (10, oM ad m_undoCount (1 : Int32) m_hasSnapshot a_m_fam m_rows m_lineLength m_formattedLength m_bufferLength m_limit m_next m_beginsAt m_token m_error m_errorAt m_errorPosition m_nested m_codeCount)), (a_m_fam, .inl (cJ, 130, .inr (.inl m_fam)))] H := hP
    have hD : va_D A [((ad 21), .inl (cI, 16, .inl m_further)), ((ad 20), .inl (cI, 16, .inl m_ways)), (ad 0, .inr (10, oM ad m_undoCount (1 : Int32) m_hasSnapshot a_m_fam m_rows m_lineLength m_formattedLength m_bufferLength m_limit m_next m_beginsAt m_token m_error m_errorAt m_errorPosition m_nested m_codeCount)), (a_m_fam, .inl (cJ, 130, .inr (.inl m_fam)))] := hD
    exact J33 (1 : Int32) H locs ls hf (hP.sub [2, 3, 0, 1] rfl) (hD.sub [2, 3, 0, 1] (by decide) rfl) hS (lv_sub hl [0, 1, 2] rfl)
set_option maxHeartbeats 4000000 in
set_option maxRecDepth 100000 in
theorem c_X10_isRow (ad : Nat → Nat) (a_m_fam : Nat) (m_undoCount : Int32) (m_thrown : Int32) (m_hasSnapshot : Bool) (m_rows : Int32) (m_lineLength : Int32) (m_formattedLength : Int32) (m_bufferLength : Int32) (m_limit : Int32) (m_next : Int32) (m_beginsAt : Int32) (m_token : Int32) (m_error : Int32) (m_errorAt : Int32) (m_errorPosition : Int32) (m_nested : Int32) (m_codeCount : Int32) (v1 : Int32) (r9 : Bool) (hf : p10_isRow m_rows v1 = r9) : gM l dC dI cI cJ cZ yX10_isRow cX10_isRow 2 (some .boolean) (1) (25) [.ref (ad 0), .int v1] [(ad 0, .inr (10, oM ad m_undoCount m_thrown m_hasSnapshot a_m_fam m_rows m_lineLength m_formattedLength m_bufferLength m_limit m_next m_beginsAt m_token m_error m_errorAt m_errorPosition m_nested m_codeCount))] [(ad 0, .inr (10, oM ad m_undoCount m_thrown m_hasSnapshot a_m_fam m_rows m_lineLength m_formattedLength m_bufferLength m_limit m_next m_beginsAt m_token m_error m_errorAt m_errorPosition m_nested m_codeCount))] (some (.int (bI r9))) := by
  refine g_start (own := RX10) (by decide +kernel) rfl (Nat.le_of_ble_eq_true rfl) ?_
  intro p e s m below meth c A ls S hr hlocks hE hP hD hS hA hl hin
  have hx := S.1
  have hb := S.2.1
  have hml := S.2.2.1
  have hown := S.2.2.2.1
  have htg : ∀ z ∈ gw, z.before ([.ref (ad 0), .int v1] : List Value).toArray s = true := fun w h => S.2.2.2.2 w (List.mem_cons_of_mem _ h)
  have hl : lv_has ls 2 [(0, .ref (ad 0)), (1, .int v1)] := hl
  have hS0 := hS
  obtain ⟨H, hH⟩ : ∃ H, H = s.heap := ⟨_, rfl⟩
  obtain ⟨locs, hlc⟩ : ∃ locs : List Loc, locs = [] := ⟨_, rfl⟩
  have hS : va_S A s.heap H locs := by rw [hH, hlc]; exact hS0
  have hP : va_P (dC, dI) vwCl [(ad 0, .inr (10, oM ad m_undoCount m_thrown m_hasSnapshot a_m_fam m_rows m_lineLength m_formattedLength m_bufferLength m_limit m_next m_beginsAt m_token m_error m_errorAt m_errorPosition m_nested m_codeCount))] H := by rw [hH]; exact hP
  suffices hgo : W p l e ({ frames := 1, cells := 0, slots := 0, locals := 25 }) s m ([.ref (ad 0), .int v1] : List Value).toArray below meth c H locs 0 0 (MQ below (gQ dC dI (some (.int (bI r9))) A [(ad 0, .inr (10, oM ad m_undoCount m_thrown m_hasSnapshot a_m_fam m_rows m_lineLength m_formattedLength m_bufferLength m_limit m_next m_beginsAt m_token m_error m_errorAt m_errorPosition m_nested m_codeCount))]) ([.ref (ad 0), .int v1] : List Value).toArray s 0 0 A) (F0 m 0 ls []) by rw [hH, hlc] at hgo; exact hgo
  rw [p10_isRow] at hf
  refine lv_iload_n hx hb dX10_isRow_0 rfl (lv_at hl 1 rfl) ?_
  refine lv_i2l hx hb dX10_isRow_1 rfl ?_
  refine lv_lconst (v := 0) hx hb dX10_isRow_2 (by decide) ?_
  refine lv_aload_n hx hb dX10_isRow_3 rfl (lv_at hl 0 rfl) ?_
  refine va_get (D := (dC, dI)) (ci := 10) (v := .int m_rows) (C := RX10) (T := TX10) (N := 37) hx hb htg inX10 hown hE.1 hP 0 rfl rfl 14 (by decide) (htg _ tw1396) (fun _ h9 => h9) rfl dX10_isRow_4 ?_
  refine lv_i2l hx hb dX10_isRow_7 rfl ?_
  refine lv_lconst (v := 1) hx hb dX10_isRow_8 (by decide) ?_
  refine lv_lsub hx hb dX10_isRow_9 ?_
  refine gcS (index := 106) S hE (c_X10_inRange v1.toInt64 (0 : Int64) (m_rows.toInt64 - (1 : Int64)) (p10_inRange v1.toInt64 (0 : Int64) (m_rows.toInt64 - (1 : Int64))) rfl) mX10_inRange tw1580 ⟨Nat.le_of_ble_eq_true rfl, Nat.le_of_ble_eq_true rfl⟩ hP hD hS hA ⟨Nat.zero_le _, Nat.zero_le _⟩ (wr := [(ad 0, .inr (10, oM ad m_undoCount m_thrown m_hasSnapshot a_m_fam m_rows m_lineLength m_formattedLength m_bufferLength m_limit m_next m_beginsAt m_token m_error m_errorAt m_errorPosition m_nested m_codeCount))]) [] [0] rfl rfl rfl rfl (by decide) (As := [.long v1.toInt64, .long (0 : Int64), .long (m_rows.toInt64 - (1 : Int64))]) (rest := []) rfl hl.1 rfl (Nat.le_of_ble_eq_true rfl) dX10_isRow_10 (fun H locs hP hD hS => ?_)
  refine W.eq (g2 := F0 m 13 ls [.int (bI (p10_inRange v1.toInt64 (0 : Int64) (m_rows.toInt64 - (1 : Int64))))]) rfl ?_
  have hP : va_P (dC, dI) vwCl [(ad 0, .inr (10, oM ad m_undoCount m_thrown m_hasSnapshot a_m_fam m_rows m_lineLength m_formattedLength m_bufferLength m_limit m_next m_beginsAt m_token m_error m_errorAt m_errorPosition m_nested m_codeCount))] H := hP
  have hD : va_D A [(ad 0, .inr (10, oM ad m_undoCount m_thrown m_hasSnapshot a_m_fam m_rows m_lineLength m_formattedLength m_bufferLength m_limit m_next m_beginsAt m_token m_error m_errorAt m_errorPosition m_nested m_codeCount))] := hD
  cases hf
  exact g_zret S hr (nar_bI (p10_inRange v1.toInt64 (0 : Int64) (m_rows.toInt64 - (1 : Int64)))) hlocks hP hD hS dX10_isRow_13
set_option maxHeartbeats 4000000 in
set_option maxRecDepth 100000 in
theorem c_X10_isPlace (ad : Nat → Nat) (a_m_fam : Nat) (m_undoCount : Int32) (m_thrown : Int32) (m_hasSnapshot : Bool) (m_rows : Int32) (m_lineLength : Int32) (m_formattedLength : Int32) (m_bufferLength : Int32) (m_limit : Int32) (m_next : Int32) (m_beginsAt : Int32) (m_token : Int32) (m_error : Int32) (m_errorAt : Int32) (m_errorPosition : Int32) (m_nested : Int32) (m_codeCount : Int32) (m_rowSize : Nat → Int32) (v1 : Int32) (v2 : Int32) (r9 : Bool) (hf : p10_isPlace m_rows m_rowSize v1 v2 = some r9) : gM l dC dI cI cJ cZ yX10_isPlace cX10_isPlace 3 (some .boolean) (2) (46) [.ref (ad 0), .int v1, .int v2] [(ad 0, .inr (10, oM ad m_undoCount m_thrown m_hasSnapshot a_m_fam m_rows m_lineLength m_formattedLength m_bufferLength m_limit m_next m_beginsAt m_token m_error m_errorAt m_errorPosition m_nested m_codeCount)), ((ad 11), .inl (cI, 16, .inl m_rowSize))] [(ad 0, .inr (10, oM ad m_undoCount m_thrown m_hasSnapshot a_m_fam m_rows m_lineLength m_formattedLength m_bufferLength m_limit m_next m_beginsAt m_token m_error m_errorAt m_errorPosition m_nested m_codeCount)), ((ad 11), .inl (cI, 16, .inl m_rowSize))] (some (.int (bI r9))) := by
  refine g_start (own := RX10) (by decide +kernel) rfl (Nat.le_of_ble_eq_true rfl) ?_
  intro p e s m below meth c A ls S hr hlocks hE hP hD hS hA hl hin
  have hx := S.1
  have hb := S.2.1
  have hml := S.2.2.1
  have hown := S.2.2.2.1
  have htg : ∀ z ∈ gw, z.before ([.ref (ad 0), .int v1, .int v2] : List Value).toArray s = true := fun w h => S.2.2.2.2 w (List.mem_cons_of_mem _ h)
  have hl : lv_has ls 3 [(0, .ref (ad 0)), (1, .int v1), (2, .int v2)] := hl
  have hS0 := hS
  obtain ⟨H, hH⟩ : ∃ H, H = s.heap := ⟨_, rfl⟩
  obtain ⟨locs, hlc⟩ : ∃ locs : List Loc, locs = [] := ⟨_, rfl⟩
  have hS : va_S A s.heap H locs := by rw [hH, hlc]; exact hS0
  have hP : va_P (dC, dI) vwCl [(ad 0, .inr (10, oM ad m_undoCount m_thrown m_hasSnapshot a_m_fam m_rows m_lineLength m_formattedLength m_bufferLength m_limit m_next m_beginsAt m_token m_error m_errorAt m_errorPosition m_nested m_codeCount)), ((ad 11), .inl (cI, 16, .inl m_rowSize))] H := by rw [hH]; exact hP
  suffices hgo : W p l e ({ frames := 2, cells := 0, slots := 0, locals := 46 }) s m ([.ref (ad 0), .int v1, .int v2] : List Value).toArray below meth c H locs 0 0 (MQ below (gQ dC dI (some (.int (bI r9))) A [(ad 0, .inr (10, oM ad m_undoCount m_thrown m_hasSnapshot a_m_fam m_rows m_lineLength m_formattedLength m_bufferLength m_limit m_next m_beginsAt m_token m_error m_errorAt m_errorPosition m_nested m_codeCount)), ((ad 11), .inl (cI, 16, .inl m_rowSize))]) ([.ref (ad 0), .int v1, .int v2] : List Value).toArray s 0 0 A) (F0 m 0 ls []) by rw [hH, hlc] at hgo; exact hgo
  rw [p10_isPlace] at hf
  refine lv_aload_n hx hb dX10_isPlace_0 rfl (lv_at hl 0 rfl) ?_
  refine lv_iload_n hx hb dX10_isPlace_1 rfl (lv_at hl 1 rfl) ?_
  refine gcV (index := 289) S hE (c_X10_isRow ad a_m_fam m_undoCount m_thrown m_hasSnapshot m_rows m_lineLength m_formattedLength m_bufferLength m_limit m_next m_beginsAt m_token m_error m_errorAt m_errorPosition m_nested m_codeCount v1 (p10_isRow m_rows v1) rfl) mX10_isRow tw1716 ⟨Nat.le_of_ble_eq_true rfl, Nat.le_of_ble_eq_true rfl⟩ hP hD hS hA ⟨Nat.zero_le _, Nat.zero_le _⟩ 0 10 rfl rfl rfl (wr := [((ad 11), .inl (cI, 16, .inl m_rowSize))]) [0] [1] rfl rfl rfl rfl (by decide) (As := [.int v1]) (rest := []) rfl hl.1 rfl (Nat.le_of_ble_eq_true rfl) dX10_isPlace_2 (fun H locs hP hD hS => ?_)
  refine W.eq (g2 := F0 m 5 ls [.int (bI (p10_isRow m_rows v1))]) rfl ?_
  have hP : va_P (dC, dI) vwCl [((ad 11), .inl (cI, 16, .inl m_rowSize)), (ad 0, .inr (10, oM ad m_undoCount m_thrown m_hasSnapshot a_m_fam m_rows m_lineLength m_formattedLength m_bufferLength m_limit m_next m_beginsAt m_token m_error m_errorAt m_errorPosition m_nested m_codeCount))] H := hP
  have hD : va_D A [((ad 11), .inl (cI, 16, .inl m_rowSize)), (ad 0, .inr (10, oM ad m_undoCount m_thrown m_hasSnapshot a_m_fam m_rows m_lineLength m_formattedLength m_bufferLength m_limit m_next m_beginsAt m_token m_error m_errorAt m_errorPosition m_nested m_codeCount))] := hD
  refine lv_if_eq (tgt := 30) hx hb dX10_isPlace_5 (by decide) (fun h9 => ?_) (fun h9 => ?_)
  · have hf := ctf (bI_0 h9) hf
    refine lv_iconst (v := 0) hx hb dX10_isPlace_30 (by decide) ?_
    cases hf
    exact g_zret S hr (nar_bI false) hlocks (hP.sub [1, 0] rfl) (hD.sub [1, 0] (by decide) rfl) hS dX10_isPlace_31
  · have hf := ctt (bI_1 h9) hf
    refine lv_iload_n hx hb dX10_isPlace_8 rfl (lv_at hl 2 rfl) ?_
    refine lv_i2l hx hb dX10_isPlace_9 rfl ?_
    refine lv_lconst (v := 0) hx hb dX10_isPlace_10 (by decide) ?_
    refine lv_aload_n hx hb dX10_isPlace_11 rfl (lv_at hl 0 rfl) ?_
    refine va_get (D := (dC, dI)) (ci := 10) (v := .ref (ad 11)) (C := RX10) (T := TX10) (N := 37) hx hb htg inX10 hown hE.1 hP 1 rfl rfl 10 (by decide) (htg _ tw1392) (fun _ h9 => h9) rfl dX10_isPlace_12 ?_
    refine lv_iload_n hx hb dX10_isPlace_15 rfl (lv_at hl 1 rfl) ?_
    obtain ⟨h9, hf⟩ := gd_s hf
    refine va_iald hx hb hE.1 hP 0 0 rfl rfl h9 dX10_isPlace_16 ?_
    refine lv_i2l hx hb dX10_isPlace_17 rfl ?_
    refine lv_lconst (v := 1) hx hb dX10_isPlace_18 (by decide) ?_
    refine lv_lsub hx hb dX10_isPlace_19 ?_
    refine gcS (index := 106) S hE (c_X10_inRange v2.toInt64 (0 : Int64) ((m_rowSize v1.toNatClampNeg).toInt64 - (1 : Int64)) (p10_inRange v2.toInt64 (0 : Int64) ((m_rowSize v1.toNatClampNeg).toInt64 - (1 : Int64))) rfl) mX10_inRange tw1580 ⟨Nat.le_of_ble_eq_true rfl, Nat.le_of_ble_eq_true rfl⟩ hP hD hS hA ⟨Nat.zero_le _, Nat.zero_le _⟩ (wr := [((ad 11), .inl (cI, 16, .inl m_rowSize)), (ad 0, .inr (10, oM ad m_undoCount m_thrown m_hasSnapshot a_m_fam m_rows m_lineLength m_formattedLength m_bufferLength m_limit m_next m_beginsAt m_token m_error m_errorAt m_errorPosition m_nested m_codeCount))]) [] [0, 1] rfl rfl rfl rfl (by decide) (As := [.long v2.toInt64, .long (0 : Int64), .long ((m_rowSize v1.toNatClampNeg).toInt64 - (1 : Int64))]) (rest := []) rfl hl.1 rfl (Nat.le_of_ble_eq_true rfl) dX10_isPlace_20 (fun H locs hP hD hS => ?_)
    refine W.eq (g2 := F0 m 23 ls [.int (bI (p10_inRange v2.toInt64 (0 : Int64) ((m_rowSize v1.toNatClampNeg).toInt64 - (1 : Int64))))]) rfl ?_
    have hP : va_P (dC, dI) vwCl [((ad 11), .inl (cI, 16, .inl m_rowSize)), (ad 0, .inr (10, oM ad m_undoCount m_thrown m_hasSnapshot a_m_fam m_rows m_lineLength m_formattedLength m_bufferLength m_limit m_next m_beginsAt m_token m_error m_errorAt m_errorPosition m_nested m_codeCount))] H := hP
    have hD : va_D A [((ad 11), .inl (cI, 16, .inl m_rowSize)), (ad 0, .inr (10, oM ad m_undoCount m_thrown m_hasSnapshot a_m_fam m_rows m_lineLength m_formattedLength m_bufferLength m_limit m_next m_beginsAt m_token m_error m_errorAt m_errorPosition m_nested m_codeCount))] := hD
    refine lv_if_eq (tgt := 30) hx hb dX10_isPlace_23 (by decide) (fun h9 => ?_) (fun h9 => ?_)
    · have hf := ctf (bI_0 h9) hf
      refine lv_iconst (v := 0) hx hb dX10_isPlace_30 (by decide) ?_
      cases hf
      exact g_zret S hr (nar_bI false) hlocks (hP.sub [1, 0] rfl) (hD.sub [1, 0] (by decide) rfl) hS dX10_isPlace_31
    · have hf := ctt (bI_1 h9) hf
      refine lv_iconst (v := 1) hx hb dX10_isPlace_26 (by decide) ?_
      refine lv_goto (tgt := 31) hx hb dX10_isPlace_27 (by decide) ?_
      cases hf
      exact g_zret S hr (nar_bI true) hlocks (hP.sub [1, 0] rfl) (hD.sub [1, 0] (by decide) rfl) hS dX10_isPlace_31
set_option maxHeartbeats 4000000 in
set_option maxRecDepth 100000 in
theorem c_X10_place (ad : Nat → Nat) (a_m_fam : Nat) (m_undoCount : Int32) (m_thrown : Int32) (m_hasSnapshot : Bool) (m_rows : Int32) (m_lineLength : Int32) (m_formattedLength : Int32) (m_bufferLength : Int32) (m_limit : Int32) (m_next : Int32) (m_beginsAt : Int32) (m_token : Int32) (m_error : Int32) (m_errorAt : Int32) (m_errorPosition : Int32) (m_nested : Int32) (m_codeCount : Int32) (m_fam : Nat → Int64) (v1 : Int32) (r9 : Int32) (m_thrown_9 : Int32) (hf : p10_place m_fam v1 = some (r9, m_thrown_9)) : gM l dC dI cI cJ cZ yX10_place cX10_place 2 (some .int) (2) (46) [.ref (ad 0), .int v1] [(ad 0, .inr (10, oM ad m_undoCount m_thrown m_hasSnapshot a_m_fam m_rows m_lineLength m_formattedLength m_bufferLength m_limit m_next m_beginsAt m_token m_error m_errorAt m_errorPosition m_nested m_codeCount)), (a_m_fam, .inl (cJ, 130, .inr (.inl m_fam)))] [(ad 0, .inr (10, oM ad m_undoCount m_thrown_9 m_hasSnapshot a_m_fam m_rows m_lineLength m_formattedLength m_bufferLength m_limit m_next m_beginsAt m_token m_error m_errorAt m_errorPosition m_nested m_codeCount)), (a_m_fam, .inl (cJ, 130, .inr (.inl m_fam)))] (some (.int r9)) := by
  refine g_start (own := RX10) (by decide +kernel) rfl (Nat.le_of_ble_eq_true rfl) ?_
  intro p e s m below meth c A ls S hr hlocks hE hP hD hS hA hl hin
  have hx := S.1
  have hb := S.2.1
  have hml := S.2.2.1
  have hown := S.2.2.2.1
  have htg : ∀ z ∈ gw, z.before ([.ref (ad 0), .int v1] : List Value).toArray s = true := fun w h => S.2.2.2.2 w (List.mem_cons_of_mem _ h)
  have hl : lv_has ls 2 [(0, .ref (ad 0)), (1, .int v1)] := hl
  have hS0 := hS
  obtain ⟨H, hH⟩ : ∃ H, H = s.heap := ⟨_, rfl⟩
  obtain ⟨locs, hlc⟩ : ∃ locs : List Loc, locs = [] := ⟨_, rfl⟩
  have hS : va_S A s.heap H locs := by rw [hH, hlc]; exact hS0
  have hP : va_P (dC, dI) vwCl [(ad 0, .inr (10, oM ad m_undoCount m_thrown m_hasSnapshot a_m_fam m_rows m_lineLength m_formattedLength m_bufferLength m_limit m_next m_beginsAt m_token m_error m_errorAt m_errorPosition m_nested m_codeCount)), (a_m_fam, .inl (cJ, 130, .inr (.inl m_fam)))] H := by rw [hH]; exact hP
  suffices hgo : W p l e ({ frames := 2, cells := 0, slots := 0, locals := 46 }) s m ([.ref (ad 0), .int v1] : List Value).toArray below meth c H locs 0 0 (MQ below (gQ dC dI (some (.int r9)) A [(ad 0, .inr (10, oM ad m_undoCount m_thrown_9 m_hasSnapshot a_m_fam m_rows m_lineLength m_formattedLength m_bufferLength m_limit m_next m_beginsAt m_token m_error m_errorAt m_errorPosition m_nested m_codeCount)), (a_m_fam, .inl (cJ, 130, .inr (.inl m_fam)))]) ([.ref (ad 0), .int v1] : List Value).toArray s 0 0 A) (F0 m 0 ls []) by rw [hH, hlc] at hgo; exact hgo
  rw [p10_place] at hf
  refine lv_aload_n hx hb dX10_place_0 rfl (lv_at hl 0 rfl) ?_
  refine lv_iconst (v := 0) hx hb dX10_place_1 (by decide) ?_
  refine va_put (D := (dC, dI)) (ci := 10) (v := .int (0 : Int32)) (ty := .int) (C := RX10) (T := TX10) (N := 37) hx hb htg inX10 tyX10 tyX10_ok nmX10 hown hE.1 hP hD hS 0 rfl rfl 5 (by decide) (htg _ tw1387) (fun _ h9 => h9) rfl (by decide +kernel) rfl rfl (Nat.le_of_ble_eq_true rfl) dX10_place_2 (fun H locs hP hD hS => ?_)
  have hP : va_P (dC, dI) vwCl [(ad 0, .inr (10, oM ad m_undoCount (0 : Int32) m_hasSnapshot a_m_fam m_rows m_lineLength m_formattedLength m_bufferLength m_limit m_next m_beginsAt m_token m_error m_errorAt m_errorPosition m_nested m_codeCount)), (a_m_fam, .inl (cJ, 130, .inr (.inl m_fam)))] H := hP
  have hD : va_D A [(ad 0, .inr (10, oM ad m_undoCount (0 : Int32) m_hasSnapshot a_m_fam m_rows m_lineLength m_formattedLength m_bufferLength m_limit m_next m_beginsAt m_token m_error m_errorAt m_errorPosition m_nested m_codeCount)), (a_m_fam, .inl (cJ, 130, .inr (.inl m_fam)))] := hD
  refine lv_aload_n hx hb dX10_place_5 rfl (lv_at hl 0 rfl) ?_
  refine lv_iload_n hx hb dX10_place_6 rfl (lv_at hl 1 rfl) ?_
  obtain ⟨r7, h9, hf⟩ := ob_s hf
  refine gcV (index := 234) S hE (c_X10_isPerson ad a_m_fam m_undoCount (0 : Int32) m_hasSnapshot m_rows m_lineLength m_formattedLength m_bufferLength m_limit m_next m_beginsAt m_token m_error m_errorAt m_errorPosition m_nested m_codeCount m_fam v1 r7 h9) mX10_isPerson tw1576 ⟨Nat.le_of_ble_eq_true rfl, Nat.le_of_ble_eq_true rfl⟩ hP hD hS hA ⟨Nat.zero_le _, Nat.zero_le _⟩ 0 10 rfl rfl rfl (wr := []) [0, 1] [] rfl rfl rfl rfl (by decide) (As := [.int v1]) (rest := []) rfl hl.1 rfl (Nat.le_of_ble_eq_true rfl) dX10_place_7 (fun H locs hP hD hS => ?_)
  refine W.eq (g2 := F0 m 10 ls [.int (bI r7)]) rfl ?_
  have hP : va_P (dC, dI) vwCl [(ad 0, .inr (10, oM ad m_undoCount (0 : Int32) m_hasSnapshot a_m_fam m_rows m_lineLength m_formattedLength m_bufferLength m_limit m_next m_beginsAt m_token m_error m_errorAt m_errorPosition m_nested m_codeCount)), (a_m_fam, .inl (cJ, 130, .inr (.inl m_fam)))] H := hP
  have hD : va_D A [(ad 0, .inr (10, oM ad m_undoCount (0 : Int32) m_hasSnapshot a_m_fam m_rows m_lineLength m_formattedLength m_bufferLength m_limit m_next m_beginsAt m_token m_error m_errorAt m_errorPosition m_nested m_codeCount)), (a_m_fam, .inl (cJ, 130, .inr (.inl m_fam)))] := hD
  refine lv_if_eq (tgt := 21) hx hb dX10_place_10 (by decide) (fun h9 => ?_) (fun h9 => ?_)
  · have hf := ctf (bI_0 h9) hf
    refine lv_aload_n hx hb dX10_place_21 rfl (lv_at hl 0 rfl) ?_
    refine lv_iconst (v := 1) hx hb dX10_place_22 (by decide) ?_
    obtain ⟨r23, m_thrown_23, h9⟩ : ∃ r23 m_thrown_23, p10_raise (1 : Int32) = (r23, m_thrown_23) := ⟨_, _, rfl⟩
    have hf := uc2_e (lb_e h9.symm hf)
    refine gcV (index := 240) S hE (c_X10_raise ad a_m_fam m_undoCount (0 : Int32) m_hasSnapshot m_rows m_lineLength m_formattedLength m_bufferLength m_limit m_next m_beginsAt m_token m_error m_errorAt m_errorPosition m_nested m_codeCount (1 : Int32) r23 m_thrown_23 h9) mX10_raise tw1584 ⟨Nat.le_of_ble_eq_true rfl, Nat.le_of_ble_eq_true rfl⟩ hP hD hS hA ⟨Nat.zero_le _, Nat.zero_le _⟩ 0 10 rfl rfl rfl (wr := [(a_m_fam, .inl (cJ, 130, .inr (.inl m_fam)))]) [0] [1] rfl rfl rfl rfl (by decide) (As := [.int (1 : Int32)]) (rest := []) rfl hl.1 rfl (Nat.le_of_ble_eq_true rfl) dX10_place_23 (fun H locs hP hD hS => ?_)
    refine W.eq (g2 := F0 m 26 ls [.int r23]) rfl ?_
    have hP : va_P (dC, dI) vwCl [(a_m_fam, .inl (cJ, 130, .inr (.inl m_fam))), (ad 0, .inr (10, oM ad m_undoCount m_thrown_23 m_hasSnapshot a_m_fam m_rows m_lineLength m_formattedLength m_bufferLength m_limit m_next m_beginsAt m_token m_error m_errorAt m_errorPosition m_nested m_codeCount))] H := hP
    have hD : va_D A [(a_m_fam, .inl (cJ, 130, .inr (.inl m_fam))), (ad 0, .inr (10, oM ad m_undoCount m_thrown_23 m_hasSnapshot a_m_fam m_rows m_lineLength m_formattedLength m_bufferLength m_limit m_next m_beginsAt m_token m_error m_errorAt m_errorPosition m_nested m_codeCount))] := hD
    cases hf
    exact g_iret S hr hlocks (hP.sub [1, 0] rfl) (hD.sub [1, 0] (by decide) rfl) hS dX10_place_26
  · have hf := ctt (bI_1 h9) hf
    refine lv_aload_n hx hb dX10_place_13 rfl (lv_at hl 0 rfl) ?_
    refine lv_iload_n hx hb dX10_place_14 rfl (lv_at hl 1 rfl) ?_
    obtain ⟨r15, h9, hf⟩ := ob_s hf
    refine gcV (index := 147) S hE (c_X10_placeOf ad a_m_fam m_undoCount (0 : Int32) m_hasSnapshot m_rows m_lineLength m_formattedLength m_bufferLength m_limit m_next m_beginsAt m_token m_error m_errorAt m_errorPosition m_nested m_codeCount m_fam v1 r15 h9) mX10_placeOf tw1548 ⟨Nat.le_of_ble_eq_true rfl, Nat.le_of_ble_eq_true rfl⟩ hP hD hS hA ⟨Nat.zero_le _, Nat.zero_le _⟩ 0 10 rfl rfl rfl (wr := []) [0, 1] [] rfl rfl rfl rfl (by decide) (As := [.int v1]) (rest := []) rfl hl.1 rfl (Nat.le_of_ble_eq_true rfl) dX10_place_15 (fun H locs hP hD hS => ?_)
    refine W.eq (g2 := F0 m 18 ls [.int r15]) rfl ?_
    have hP : va_P (dC, dI) vwCl [(ad 0, .inr (10, oM ad m_undoCount (0 : Int32) m_hasSnapshot a_m_fam m_rows m_lineLength m_formattedLength m_bufferLength m_limit m_next m_beginsAt m_token m_error m_errorAt m_errorPosition m_nested m_codeCount)), (a_m_fam, .inl (cJ, 130, .inr (.inl m_fam)))] H := hP
    have hD : va_D A [(ad 0, .inr (10, oM ad m_undoCount (0 : Int32) m_hasSnapshot a_m_fam m_rows m_lineLength m_formattedLength m_bufferLength m_limit m_next m_beginsAt m_token m_error m_errorAt m_errorPosition m_nested m_codeCount)), (a_m_fam, .inl (cJ, 130, .inr (.inl m_fam)))] := hD
    refine lv_goto (tgt := 26) hx hb dX10_place_18 (by decide) ?_
    cases hf
    exact g_iret S hr hlocks hP hD hS dX10_place_26
set_option maxHeartbeats 4000000 in
set_option maxRecDepth 100000 in
theorem c_X10_isWidth (v0 : Int32) (r9 : Bool) (hf : p10_isWidth v0 = r9) : gM l dC dI cI cJ cZ yX10_isWidth cX10_isWidth 1 (some .boolean) (1) (25) [.int v0] [] [] (some (.int (bI r9))) := by
  refine g_start (own := RX10) (by decide +kernel) rfl (Nat.le_of_ble_eq_true rfl) ?_
  intro p e s m below meth c A ls S hr hlocks hE hP hD hS hA hl hin
  have hx := S.1
  have hb := S.2.1
  have hml := S.2.2.1
  have hown := S.2.2.2.1
  have htg : ∀ z ∈ gw, z.before ([.int v0] : List Value).toArray s = true := fun w h => S.2.2.2.2 w (List.mem_cons_of_mem _ h)
  have hl : lv_has ls 1 [(0, .int v0)] := hl
  have hS0 := hS
  obtain ⟨H, hH⟩ : ∃ H, H = s.heap := ⟨_, rfl⟩
  obtain ⟨locs, hlc⟩ : ∃ locs : List Loc, locs = [] := ⟨_, rfl⟩
  have hS : va_S A s.heap H locs := by rw [hH, hlc]; exact hS0
  have hP : va_P (dC, dI) vwCl [] H := by rw [hH]; exact hP
  suffices hgo : W p l e ({ frames := 1, cells := 0, slots := 0, locals := 25 }) s m ([.int v0] : List Value).toArray below meth c H locs 0 0 (MQ below (gQ dC dI (some (.int (bI r9))) A []) ([.int v0] : List Value).toArray s 0 0 A) (F0 m 0 ls []) by rw [hH, hlc] at hgo; exact hgo
  rw [p10_isWidth] at hf
  refine lv_iload_n hx hb dX10_isWidth_0 rfl (lv_at hl 0 rfl) ?_
  refine lv_i2l hx hb dX10_isWidth_1 rfl ?_
  refine lv_ldc2 (own := RX10) (v := 10) hx hb hown (htg _ tw1809) dX10_isWidth_2 ?_
  refine lv_ldc2 (own := RX10) (v := 200) hx hb hown (htg _ tw1810) dX10_isWidth_5 ?_
  refine gcS (index := 106) S hE (c_X10_inRange v0.toInt64 (10 : Int64) (200 : Int64) (p10_inRange v0.toInt64 (10 : Int64) (200 : Int64)) rfl) mX10_inRange tw1580 ⟨Nat.le_of_ble_eq_true rfl, Nat.le_of_ble_eq_true rfl⟩ hP hD hS hA ⟨Nat.zero_le _, Nat.zero_le _⟩ (wr := []) [] [] rfl rfl rfl rfl (by decide) (As := [.long v0.toInt64, .long (10 : Int64), .long (200 : Int64)]) (rest := []) rfl hl.1 rfl (Nat.le_of_ble_eq_true rfl) dX10_isWidth_8 (fun H locs hP hD hS => ?_)
  refine W.eq (g2 := F0 m 11 ls [.int (bI (p10_inRange v0.toInt64 (10 : Int64) (200 : Int64)))]) rfl ?_
  have hP : va_P (dC, dI) vwCl [] H := hP
  have hD : va_D A [] := hD
  cases hf
  exact g_zret S hr (nar_bI (p10_inRange v0.toInt64 (10 : Int64) (200 : Int64))) hlocks hP hD hS dX10_isWidth_11
set_option maxHeartbeats 4000000 in
set_option maxRecDepth 100000 in
theorem c_X10_formattedByte (ad : Nat → Nat) (a_m_fam : Nat) (m_undoCount : Int32) (m_thrown : Int32) (m_hasSnapshot : Bool) (m_rows : Int32) (m_lineLength : Int32) (m_formattedLength : Int32) (m_bufferLength : Int32) (m_limit : Int32) (m_next : Int32) (m_beginsAt : Int32) (m_token : Int32) (m_error : Int32) (m_errorAt : Int32) (m_errorPosition : Int32) (m_nested : Int32) (m_codeCount : Int32) (m_formatted : Nat → Int32) (v1 : Int32) (r9 : Int32) (m_thrown_9 : Int32) (hf : p10_formattedByte m_formattedLength m_formatted v1 = some (r9, m_thrown_9)) : gM l dC dI cI cJ cZ yX10_formattedByte cX10_formattedByte 2 (some .int) (1) (25) [.ref (ad 0), .int v1] [(ad 0, .inr (10, oM ad m_undoCount m_thrown m_hasSnapshot a_m_fam m_rows m_lineLength m_formattedLength m_bufferLength m_limit m_next m_beginsAt m_token m_error m_errorAt m_errorPosition m_nested m_codeCount)), ((ad 22), .inl (cI, 200, .inl m_formatted))] [(ad 0, .inr (10, oM ad m_undoCount m_thrown_9 m_hasSnapshot a_m_fam m_rows m_lineLength m_formattedLength m_bufferLength m_limit m_next m_beginsAt m_token m_error m_errorAt m_errorPosition m_nested m_codeCount)), ((ad 22), .inl (cI, 200, .inl m_formatted))] (some (.int r9)) := by
  refine g_start (own := RX10) (by decide +kernel) rfl (Nat.le_of_ble_eq_true rfl) ?_
  intro p e s m below meth c A ls S hr hlocks hE hP hD hS hA hl hin
  have hx := S.1
  have hb := S.2.1
  have hml := S.2.2.1
  have hown := S.2.2.2.1
  have htg : ∀ z ∈ gw, z.before ([.ref (ad 0), .int v1] : List Value).toArray s = true := fun w h => S.2.2.2.2 w (List.mem_cons_of_mem _ h)
  have hl : lv_has ls 2 [(0, .ref (ad 0)), (1, .int v1)] := hl
  have hS0 := hS
  obtain ⟨H, hH⟩ : ∃ H, H = s.heap := ⟨_, rfl⟩
  obtain ⟨locs, hlc⟩ : ∃ locs : List Loc, locs = [] := ⟨_, rfl⟩
  have hS : va_S A s.heap H locs := by rw [hH, hlc]; exact hS0
  have hP : va_P (dC, dI) vwCl [(ad 0, .inr (10, oM ad m_undoCount m_thrown m_hasSnapshot a_m_fam m_rows m_lineLength m_formattedLength m_bufferLength m_limit m_next m_beginsAt m_token m_error m_errorAt m_errorPosition m_nested m_codeCount)), ((ad 22), .inl (cI, 200, .inl m_formatted))] H := by rw [hH]; exact hP
  suffices hgo : W p l e ({ frames := 1, cells := 0, slots := 0, locals := 25 }) s m ([.ref (ad 0), .int v1] : List Value).toArray below meth c H locs 0 0 (MQ below (gQ dC dI (some (.int r9)) A [(ad 0, .inr (10, oM ad m_undoCount m_thrown_9 m_hasSnapshot a_m_fam m_rows m_lineLength m_formattedLength m_bufferLength m_limit m_next m_beginsAt m_token m_error m_errorAt m_errorPosition m_nested m_codeCount)), ((ad 22), .inl (cI, 200, .inl m_formatted))]) ([.ref (ad 0), .int v1] : List Value).toArray s 0 0 A) (F0 m 0 ls []) by rw [hH, hlc] at hgo; exact hgo
  rw [p10_formattedByte] at hf
  refine lv_aload_n hx hb dX10_formattedByte_0 rfl (lv_at hl 0 rfl) ?_
  refine lv_iconst (v := 0) hx hb dX10_formattedByte_1 (by decide) ?_
  refine va_put (D := (dC, dI)) (ci := 10) (v := .int (0 : Int32)) (ty := .int) (C := RX10) (T := TX10) (N := 37) hx hb htg inX10 tyX10 tyX10_ok nmX10 hown hE.1 hP hD hS 0 rfl rfl 5 (by decide) (htg _ tw1387) (fun _ h9 => h9) rfl (by decide +kernel) rfl rfl (Nat.le_of_ble_eq_true rfl) dX10_formattedByte_2 (fun H locs hP hD hS => ?_)
  have hP : va_P (dC, dI) vwCl [(ad 0, .inr (10, oM ad m_undoCount (0 : Int32) m_hasSnapshot a_m_fam m_rows m_lineLength m_formattedLength m_bufferLength m_limit m_next m_beginsAt m_token m_error m_errorAt m_errorPosition m_nested m_codeCount)), ((ad 22), .inl (cI, 200, .inl m_formatted))] H := hP
  have hD : va_D A [(ad 0, .inr (10, oM ad m_undoCount (0 : Int32) m_hasSnapshot a_m_fam m_rows m_lineLength m_formattedLength m_bufferLength m_limit m_next m_beginsAt m_token m_error m_errorAt m_errorPosition m_nested m_codeCount)), ((ad 22), .inl (cI, 200, .inl m_formatted))] := hD
  refine lv_iload_n hx hb dX10_formattedByte_5 rfl (lv_at hl 1 rfl) ?_
  refine lv_i2l hx hb dX10_formattedByte_6 rfl ?_
  refine lv_lconst (v := 0) hx hb dX10_formattedByte_7 (by decide) ?_
  refine lv_aload_n hx hb dX10_formattedByte_8 rfl (lv_at hl 0 rfl) ?_
  refine va_get (D := (dC, dI)) (ci := 10) (v := .int m_formattedLength) (C := RX10) (T := TX10) (N := 37) hx hb htg inX10 hown hE.1 hP 0 rfl rfl 22 (by decide) (htg _ tw1404) (fun _ h9 => h9) rfl dX10_formattedByte_9 ?_
  refine lv_i2l hx hb dX10_formattedByte_12 rfl ?_
  refine lv_lconst (v := 1) hx hb dX10_formattedByte_13 (by decide) ?_
  refine lv_lsub hx hb dX10_formattedByte_14 ?_
  refine gcS (index := 106) S hE (c_X10_inRange v1.toInt64 (0 : Int64) (m_formattedLength.toInt64 - (1 : Int64)) (p10_inRange v1.toInt64 (0 : Int64) (m_formattedLength.toInt64 - (1 : Int64))) rfl) mX10_inRange tw1580 ⟨Nat.le_of_ble_eq_true rfl, Nat.le_of_ble_eq_true rfl⟩ hP hD hS hA ⟨Nat.zero_le _, Nat.zero_le _⟩ (wr := [(ad 0, .inr (10, oM ad m_undoCount (0 : Int32) m_hasSnapshot a_m_fam m_rows m_lineLength m_formattedLength m_bufferLength m_limit m_next m_beginsAt m_token m_error m_errorAt m_errorPosition m_nested m_codeCount)), ((ad 22), .inl (cI, 200, .inl m_formatted))]) [] [0, 1] rfl rfl rfl rfl (by decide) (As := [.long v1.toInt64, .long (0 : Int64), .long (m_formattedLength.toInt64 - (1 : Int64))]) (rest := []) rfl hl.1 rfl (Nat.le_of_ble_eq_true rfl) dX10_formattedByte_15 (fun H locs hP hD hS => ?_)
  refine W.eq (g2 := F0 m 18 ls [.int (bI (p10_inRange v1.toInt64 (0 : Int64) (m_formattedLength.toInt64 - (1 : Int64))))]) rfl ?_
  have hP : va_P (dC, dI) vwCl [(ad 0, .inr (10, oM ad m_undoCount (0 : Int32) m_hasSnapshot a_m_fam m_rows m_lineLength m_formattedLength m_bufferLength m_limit m_next m_beginsAt m_token m_error m_errorAt m_errorPosition m_nested m_codeCount)), ((ad 22), .inl (cI, 200, .inl m_formatted))] H := hP
  have hD : va_D A [(ad 0, .inr (10, oM ad m_undoCount (0 : Int32) m_hasSnapshot a_m_fam m_rows m_lineLength m_formattedLength m_bufferLength m_limit m_next m_beginsAt m_token m_error m_errorAt m_errorPosition m_nested m_codeCount)), ((ad 22), .inl (cI, 200, .inl m_formatted))] := hD
  refine lv_if_eq (tgt := 30) hx hb dX10_formattedByte_18 (by decide) (fun h9 => ?_) (fun h9 => ?_)
  · have hf := ctf (bI_0 h9) hf
    refine lv_iconst (v := -1) hx hb dX10_formattedByte_30 (by decide) ?_
    cases hf
    exact g_iret S hr hlocks hP hD hS dX10_formattedByte_31
  · have hf := ctt (bI_1 h9) hf
    refine lv_aload_n hx hb dX10_formattedByte_21 rfl (lv_at hl 0 rfl) ?_
    refine va_get (D := (dC, dI)) (ci := 10) (v := .ref (ad 22)) (C := RX10) (T := TX10) (N := 37) hx hb htg inX10 hown hE.1 hP 0 rfl rfl 21 (by decide) (htg _ tw1403) (fun _ h9 => h9) rfl dX10_formattedByte_22 ?_
    refine lv_iload_n hx hb dX10_formattedByte_25 rfl (lv_at hl 1 rfl) ?_
    obtain ⟨h9, hf⟩ := gd_s hf
    refine va_iald hx hb hE.1 hP 1 0 rfl rfl h9 dX10_formattedByte_26 ?_
    refine lv_goto (tgt := 31) hx hb dX10_formattedByte_27 (by decide) ?_
    cases hf
    exact g_iret S hr hlocks hP hD hS dX10_formattedByte_31
set_option maxHeartbeats 4000000 in
set_option maxRecDepth 100000 in
theorem c_X10_addUnion (ad : Nat → Nat) (a_m_fam : Nat) (m_undoCount : Int32) (m_thrown : Int32) (m_hasSnapshot : Bool) (m_rows : Int32) (m_lineLength : Int32) (m_formattedLength : Int32) (m_bufferLength : Int32) (m_limit : Int32) (m_next : Int32) (m_beginsAt : Int32) (m_token : Int32) (m_error : Int32) (m_errorAt : Int32) (m_errorPosition : Int32) (m_nested : Int32) (m_codeCount : Int32) (m_fam : Nat → Int64) (v1 : Int32) (v2 : Int32) (v3 : Int32) (m_fam_9 : Nat → Int64) (hf : p10_addUnion m_fam v1 v2 v3 = some m_fam_9) : gM l dC dI cI cJ cZ yX10_addUnion cX10_addUnion 5 none (1) (20) [.ref (ad 0), .int v1, .int v2, .int v3] [(ad 0, .inr (10, oM ad m_undoCount m_thrown m_hasSnapshot a_m_fam m_rows m_lineLength m_formattedLength m_bufferLength m_limit m_next m_beginsAt m_token m_error m_errorAt m_errorPosition m_nested m_codeCount)), (a_m_fam, .inl (cJ, 130, .inr (.inl m_fam)))] [(ad 0, .inr (10, oM ad m_undoCount m_thrown m_hasSnapshot a_m_fam m_rows m_lineLength m_formattedLength m_bufferLength m_limit m_next m_beginsAt m_token m_error m_errorAt m_errorPosition m_nested m_codeCount)), (a_m_fam, .inl (cJ, 130, .inr (.inl m_fam_9)))] none := by
  refine g_start (own := RX10) (by decide +kernel) rfl (Nat.le_of_ble_eq_true rfl) ?_
  intro p e s m below meth c A ls S hr hlocks hE hP hD hS hA hl hin
  have hx := S.1
  have hb := S.2.1
  have hml := S.2.2.1
  have hown := S.2.2.2.1
  have htg : ∀ z ∈ gw, z.before ([.ref (ad 0), .int v1, .int v2, .int v3] : List Value).toArray s = true := fun w h => S.2.2.2.2 w (List.mem_cons_of_mem _ h)
  have hl : lv_has ls 5 [(0, .ref (ad 0)), (1, .int v1), (2, .int v2), (3, .int v3)] := hl
  have hS0 := hS
  obtain ⟨H, hH⟩ : ∃ H, H = s.heap := ⟨_, rfl⟩
  obtain ⟨locs, hlc⟩ : ∃ locs : List Loc, locs = [] := ⟨_, rfl⟩
  have hS : va_S A s.heap H locs := by rw [hH, hlc]; exact hS0
  have hP : va_P (dC, dI) vwCl [(ad 0, .inr (10, oM ad m_undoCount m_thrown m_hasSnapshot a_m_fam m_rows m_lineLength m_formattedLength m_bufferLength m_limit m_next m_beginsAt m_token m_error m_errorAt m_errorPosition m_nested m_codeCount)), (a_m_fam, .inl (cJ, 130, .inr (.inl m_fam)))] H := by rw [hH]; exact hP
  suffices hgo : W p l e ({ frames := 1, cells := 0, slots := 0, locals := 20 }) s m ([.ref (ad 0), .int v1, .int v2, .int v3] : List Value).toArray below meth c H locs 0 0 (MQ below (gQ dC dI none A [(ad 0, .inr (10, oM ad m_undoCount m_thrown m_hasSnapshot a_m_fam m_rows m_lineLength m_formattedLength m_bufferLength m_limit m_next m_beginsAt m_token m_error m_errorAt m_errorPosition m_nested m_codeCount)), (a_m_fam, .inl (cJ, 130, .inr (.inl m_fam_9)))]) ([.ref (ad 0), .int v1, .int v2, .int v3] : List Value).toArray s 0 0 A) (F0 m 0 ls []) by rw [hH, hlc] at hgo; exact hgo
  rw [p10_addUnion] at hf
  refine lv_bipush (v := 66) hx hb dX10_addUnion_0 (by decide) ?_
  refine lv_iconst (v := 3) hx hb dX10_addUnion_2 (by decide) ?_
  refine lv_aload_n hx hb dX10_addUnion_3 rfl (lv_at hl 0 rfl) ?_
  obtain ⟨r4, h9, hf⟩ := ob_s hf
  refine gcV (index := 110) S hE (c_X10_unions ad a_m_fam m_undoCount m_thrown m_hasSnapshot m_rows m_lineLength m_formattedLength m_bufferLength m_limit m_next m_beginsAt m_token m_error m_errorAt m_errorPosition m_nested m_codeCount m_fam r4 h9) mX10_unions tw1532 ⟨Nat.le_of_ble_eq_true rfl, Nat.le_of_ble_eq_true rfl⟩ hP hD hS hA ⟨Nat.zero_le _, Nat.zero_le _⟩ 0 10 rfl rfl rfl (wr := []) [0, 1] [] rfl rfl rfl rfl (by decide) (As := []) (rest := [.int (3 : Int32), .int (66 : Int32)]) rfl hl.1 rfl (Nat.le_of_ble_eq_true rfl) dX10_addUnion_4 (fun H locs hP hD hS => ?_)
  refine W.eq (g2 := F0 m 7 ls [.int r4, .int (3 : Int32), .int (66 : Int32)]) rfl ?_
  have hP : va_P (dC, dI) vwCl [(ad 0, .inr (10, oM ad m_undoCount m_thrown m_hasSnapshot a_m_fam m_rows m_lineLength m_formattedLength m_bufferLength m_limit m_next m_beginsAt m_token m_error m_errorAt m_errorPosition m_nested m_codeCount)), (a_m_fam, .inl (cJ, 130, .inr (.inl m_fam)))] H := hP
  have hD : va_D A [(ad 0, .inr (10, oM ad m_undoCount m_thrown m_hasSnapshot a_m_fam m_rows m_lineLength m_formattedLength m_bufferLength m_limit m_next m_beginsAt m_token m_error m_errorAt m_errorPosition m_nested m_codeCount)), (a_m_fam, .inl (cJ, 130, .inr (.inl m_fam)))] := hD
  refine lv_imul hx hb dX10_addUnion_7 ?_
  refine lv_iadd hx hb dX10_addUnion_8 ?_
  refine lv_topi (fun t9 h9 => ?_)
  have hf := lb_e h9 hf
  refine lv_istore (lv' := [(4, .int t9), (0, .ref (ad 0)), (1, .int v1), (2, .int v2), (3, .int v3)]) hx hb dX10_addUnion_9 hl (by decide) rfl (fun ls hl => ?_)
  refine lv_aload_n hx hb dX10_addUnion_11 rfl (lv_at hl 1 rfl) ?_
  refine va_get (D := (dC, dI)) (ci := 10) (v := .ref a_m_fam) (C := RX10) (T := TX10) (N := 37) hx hb htg inX10 hown hE.1 hP 0 rfl rfl 7 (by decide) (htg _ tw1389) (fun _ h9 => h9) rfl dX10_addUnion_12 ?_
  refine lv_iload hx hb dX10_addUnion_15 (lv_at hl 0 rfl) ?_
  refine lv_iload_n hx hb dX10_addUnion_17 rfl (lv_at hl 2 rfl) ?_
  refine lv_i2l hx hb dX10_addUnion_18 rfl ?_
  obtain ⟨h9, hf⟩ := gd_s hf
  refine va_last hx hb hE.1 hP hD hS 1 1 rfl rfl h9 dX10_addUnion_19 (fun H locs hP hD hS => ?_)
  obtain ⟨g19, h9⟩ : ∃ z, z = (vp_updL m_fam t9.toNatClampNeg v1.toInt64) := ⟨_, rfl⟩
  have hf := lb_e h9 hf
  have hP : va_P (dC, dI) vwCl [(ad 0, .inr (10, oM ad m_undoCount m_thrown m_hasSnapshot a_m_fam m_rows m_lineLength m_formattedLength m_bufferLength m_limit m_next m_beginsAt m_token m_error m_errorAt m_errorPosition m_nested m_codeCount)), (a_m_fam, .inl (cJ, 130, .inr (.inl g19)))] H := by rw [h9]; exact hP
  have hD : va_D A [(ad 0, .inr (10, oM ad m_undoCount m_thrown m_hasSnapshot a_m_fam m_rows m_lineLength m_formattedLength m_bufferLength m_limit m_next m_beginsAt m_token m_error m_errorAt m_errorPosition m_nested m_codeCount)), (a_m_fam, .inl (cJ, 130, .inr (.inl g19)))] := by rw [h9]; exact hD
  refine lv_aload_n hx hb dX10_addUnion_20 rfl (lv_at hl 1 rfl) ?_
  refine va_get (D := (dC, dI)) (ci := 10) (v := .ref a_m_fam) (C := RX10) (T := TX10) (N := 37) hx hb htg inX10 hown hE.1 hP 0 rfl rfl 7 (by decide) (htg _ tw1389) (fun _ h9 => h9) rfl dX10_addUnion_21 ?_
  refine lv_iload hx hb dX10_addUnion_24 (lv_at hl 0 rfl) ?_
  refine lv_iconst (v := 1) hx hb dX10_addUnion_26 (by decide) ?_
  refine lv_iadd hx hb dX10_addUnion_27 ?_
  refine lv_iload_n hx hb dX10_addUnion_28 rfl (lv_at hl 3 rfl) ?_
  refine lv_i2l hx hb dX10_addUnion_29 rfl ?_
  obtain ⟨h9, hf⟩ := gd_s hf
  refine va_last hx hb hE.1 hP hD hS 1 1 rfl rfl h9 dX10_addUnion_30 (fun H locs hP hD hS => ?_)
  obtain ⟨g30, h9⟩ : ∃ z, z = (vp_updL g19 (t9 + (1 : Int32)).toNatClampNeg v2.toInt64) := ⟨_, rfl⟩
  have hf := lb_e h9 hf
  have hP : va_P (dC, dI) vwCl [(ad 0, .inr (10, oM ad m_undoCount m_thrown m_hasSnapshot a_m_fam m_rows m_lineLength m_formattedLength m_bufferLength m_limit m_next m_beginsAt m_token m_error m_errorAt m_errorPosition m_nested m_codeCount)), (a_m_fam, .inl (cJ, 130, .inr (.inl g30)))] H := by rw [h9]; exact hP
  have hD : va_D A [(ad 0, .inr (10, oM ad m_undoCount m_thrown m_hasSnapshot a_m_fam m_rows m_lineLength m_formattedLength m_bufferLength m_limit m_next m_beginsAt m_token m_error m_errorAt m_errorPosition m_nested m_codeCount)), (a_m_fam, .inl (cJ, 130, .inr (.inl g30)))] := by rw [h9]; exact hD
  refine lv_aload_n hx hb dX10_addUnion_31 rfl (lv_at hl 1 rfl) ?_
  refine va_get (D := (dC, dI)) (ci := 10) (v := .ref a_m_fam) (C := RX10) (T := TX10) (N := 37) hx hb htg inX10 hown hE.1 hP 0 rfl rfl 7 (by decide) (htg _ tw1389) (fun _ h9 => h9) rfl dX10_addUnion_32 ?_
  refine lv_iload hx hb dX10_addUnion_35 (lv_at hl 0 rfl) ?_
  refine lv_iconst (v := 2) hx hb dX10_addUnion_37 (by decide) ?_
  refine lv_iadd hx hb dX10_addUnion_38 ?_
  refine lv_iload_n hx hb dX10_addUnion_39 rfl (lv_at hl 4 rfl) ?_
  refine lv_i2l hx hb dX10_addUnion_40 rfl ?_
  obtain ⟨h9, hf⟩ := gd_s hf
  refine va_last hx hb hE.1 hP hD hS 1 1 rfl rfl h9 dX10_addUnion_41 (fun H locs hP hD hS => ?_)
  obtain ⟨g41, h9⟩ : ∃ z, z = (vp_updL g30 (t9 + (2 : Int32)).toNatClampNeg v3.toInt64) := ⟨_, rfl⟩
  have hf := lb_e h9 hf
  have hP : va_P (dC, dI) vwCl [(ad 0, .inr (10, oM ad m_undoCount m_thrown m_hasSnapshot a_m_fam m_rows m_lineLength m_formattedLength m_bufferLength m_limit m_next m_beginsAt m_token m_error m_errorAt m_errorPosition m_nested m_codeCount)), (a_m_fam, .inl (cJ, 130, .inr (.inl g41)))] H := by rw [h9]; exact hP
  have hD : va_D A [(ad 0, .inr (10, oM ad m_undoCount m_thrown m_hasSnapshot a_m_fam m_rows m_lineLength m_formattedLength m_bufferLength m_limit m_next m_beginsAt m_token m_error m_errorAt m_errorPosition m_nested m_codeCount)), (a_m_fam, .inl (cJ, 130, .inr (.inl g41)))] := by rw [h9]; exact hD
  refine lv_aload_n hx hb dX10_addUnion_42 rfl (lv_at hl 1 rfl) ?_
  refine va_get (D := (dC, dI)) (ci := 10) (v := .ref a_m_fam) (C := RX10) (T := TX10) (N := 37) hx hb htg inX10 hown hE.1 hP 0 rfl rfl 7 (by decide) (htg _ tw1389) (fun _ h9 => h9) rfl dX10_addUnion_43 ?_
  refine lv_iconst (v := 1) hx hb dX10_addUnion_46 (by decide) ?_
  refine lv_dup2_11 hx hb dX10_addUnion_47 rfl rfl ?_
  obtain ⟨h9, hf⟩ := gd_s hf
  refine va_lald hx hb hE.1 hP 1 1 rfl rfl h9 dX10_addUnion_48 ?_
  refine lv_lconst (v := 1) hx hb dX10_addUnion_49 (by decide) ?_
  refine lv_ladd hx hb dX10_addUnion_50 ?_
  obtain ⟨h9, hf⟩ := gd_s hf
  refine va_last hx hb hE.1 hP hD hS 1 1 rfl rfl h9 dX10_addUnion_51 (fun H locs hP hD hS => ?_)
  obtain ⟨g51, h9⟩ : ∃ z, z = (vp_updL g41 (1 : Int32).toNatClampNeg ((g41 (1 : Int32).toNatClampNeg) + (1 : Int64))) := ⟨_, rfl⟩
  have hf := lb_e h9 hf
  have hP : va_P (dC, dI) vwCl [(ad 0, .inr (10, oM ad m_undoCount m_thrown m_hasSnapshot a_m_fam m_rows m_lineLength m_formattedLength m_bufferLength m_limit m_next m_beginsAt m_token m_error m_errorAt m_errorPosition m_nested m_codeCount)), (a_m_fam, .inl (cJ, 130, .inr (.inl g51)))] H := by rw [h9]; exact hP
  have hD : va_D A [(ad 0, .inr (10, oM ad m_undoCount m_thrown m_hasSnapshot a_m_fam m_rows m_lineLength m_formattedLength m_bufferLength m_limit m_next m_beginsAt m_token m_error m_errorAt m_errorPosition m_nested m_codeCount)), (a_m_fam, .inl (cJ, 130, .inr (.inl g51)))] := by rw [h9]; exact hD
  cases hf
  exact g_vret S hr hlocks hP hD hS dX10_addUnion_52
set_option maxHeartbeats 4000000 in
set_option maxRecDepth 100000 in
theorem c_X10_isAncestorOfBoth (ad : Nat → Nat) (a_m_fam : Nat) (m_undoCount : Int32) (m_thrown : Int32) (m_hasSnapshot : Bool) (m_rows : Int32) (m_lineLength : Int32) (m_formattedLength : Int32) (m_bufferLength : Int32) (m_limit : Int32) (m_next : Int32) (m_beginsAt : Int32) (m_token : Int32) (m_error : Int32) (m_errorAt : Int32) (m_errorPosition : Int32) (m_nested : Int32) (m_codeCount : Int32) (m_fam : Nat → Int64) (v1 : Int32) (v2 : Int32) (r9 : Bool) (hf : p10_isAncestorOfBoth m_fam v1 v2 = some r9) : gM l dC dI cI cJ cZ yX10_isAncestorOfBoth cX10_isAncestorOfBoth 4 (some .boolean) (3) (70) [.ref (ad 0), .int v1, .int v2] [(ad 0, .inr (10, oM ad m_undoCount m_thrown m_hasSnapshot a_m_fam m_rows m_lineLength m_formattedLength m_bufferLength m_limit m_next m_beginsAt m_token m_error m_errorAt m_errorPosition m_nested m_codeCount)), (a_m_fam, .inl (cJ, 130, .inr (.inl m_fam)))] [(ad 0, .inr (10, oM ad m_undoCount m_thrown m_hasSnapshot a_m_fam m_rows m_lineLength m_formattedLength m_bufferLength m_limit m_next m_beginsAt m_token m_error m_errorAt m_errorPosition m_nested m_codeCount)), (a_m_fam, .inl (cJ, 130, .inr (.inl m_fam)))] (some (.int (bI r9))) := by
  refine g_start (own := RX10) (by decide +kernel) rfl (Nat.le_of_ble_eq_true rfl) ?_
  intro p e s m below meth c A ls S hr hlocks hE hP hD hS hA hl hin
  have hx := S.1
  have hb := S.2.1
  have hml := S.2.2.1
  have hown := S.2.2.2.1
  have htg : ∀ z ∈ gw, z.before ([.ref (ad 0), .int v1, .int v2] : List Value).toArray s = true := fun w h => S.2.2.2.2 w (List.mem_cons_of_mem _ h)
  have hl : lv_has ls 4 [(0, .ref (ad 0)), (1, .int v1), (2, .int v2)] := hl
  have hS0 := hS
  obtain ⟨H, hH⟩ : ∃ H, H = s.heap := ⟨_, rfl⟩
  obtain ⟨locs, hlc⟩ : ∃ locs : List Loc, locs = [] := ⟨_, rfl⟩
  have hS : va_S A s.heap H locs := by rw [hH, hlc]; exact hS0
  have hP : va_P (dC, dI) vwCl [(ad 0, .inr (10, oM ad m_undoCount m_thrown m_hasSnapshot a_m_fam m_rows m_lineLength m_formattedLength m_bufferLength m_limit m_next m_beginsAt m_token m_error m_errorAt m_errorPosition m_nested m_codeCount)), (a_m_fam, .inl (cJ, 130, .inr (.inl m_fam)))] H := by rw [hH]; exact hP
  suffices hgo : W p l e ({ frames := 3, cells := 0, slots := 0, locals := 70 }) s m ([.ref (ad 0), .int v1, .int v2] : List Value).toArray below meth c H locs 0 0 (MQ below (gQ dC dI (some (.int (bI r9))) A [(ad 0, .inr (10, oM ad m_undoCount m_thrown m_hasSnapshot a_m_fam m_rows m_lineLength m_formattedLength m_bufferLength m_limit m_next m_beginsAt m_token m_error m_errorAt m_errorPosition m_nested m_codeCount)), (a_m_fam, .inl (cJ, 130, .inr (.inl m_fam)))]) ([.ref (ad 0), .int v1, .int v2] : List Value).toArray s 0 0 A) (F0 m 0 ls []) by rw [hH, hlc] at hgo; exact hgo
  rw [p10_isAncestorOfBoth] at hf
  refine lv_aload_n hx hb dX10_isAncestorOfBoth_0 rfl (lv_at hl 0 rfl) ?_
  refine lv_aload_n hx hb dX10_isAncestorOfBoth_1 rfl (lv_at hl 0 rfl) ?_
  refine lv_iload_n hx hb dX10_isAncestorOfBoth_2 rfl (lv_at hl 1 rfl) ?_
  refine lv_iconst (v := 0) hx hb dX10_isAncestorOfBoth_3 (by decide) ?_
  obtain ⟨r4, h9, hf⟩ := ob_s hf
  refine gcV (index := 102) S hE (c_X10_partner ad a_m_fam m_undoCount m_thrown m_hasSnapshot m_rows m_lineLength m_formattedLength m_bufferLength m_limit m_next m_beginsAt m_token m_error m_errorAt m_errorPosition m_nested m_codeCount m_fam v1 (0 : Int32) r4 h9) mX10_partner tw1527 ⟨Nat.le_of_ble_eq_true rfl, Nat.le_of_ble_eq_true rfl⟩ hP hD hS hA ⟨Nat.zero_le _, Nat.zero_le _⟩ 0 10 rfl rfl rfl (wr := []) [0, 1] [] rfl rfl rfl rfl (by decide) (As := [.int v1, .int (0 : Int32)]) (rest := [.ref (ad 0)]) rfl hl.1 rfl (Nat.le_of_ble_eq_true rfl) dX10_isAncestorOfBoth_4 (fun H locs hP hD hS => ?_)
  refine W.eq (g2 := F0 m 7 ls [.int r4, .ref (ad 0)]) rfl ?_
  have hP : va_P (dC, dI) vwCl [(ad 0, .inr (10, oM ad m_undoCount m_thrown m_hasSnapshot a_m_fam m_rows m_lineLength m_formattedLength m_bufferLength m_limit m_next m_beginsAt m_token m_error m_errorAt m_errorPosition m_nested m_codeCount)), (a_m_fam, .inl (cJ, 130, .inr (.inl m_fam)))] H := hP
  have hD : va_D A [(ad 0, .inr (10, oM ad m_undoCount m_thrown m_hasSnapshot a_m_fam m_rows m_lineLength m_formattedLength m_bufferLength m_limit m_next m_beginsAt m_token m_error m_errorAt m_errorPosition m_nested m_codeCount)), (a_m_fam, .inl (cJ, 130, .inr (.inl m_fam)))] := hD
  obtain ⟨r7, h9, hf⟩ := ob_s hf
  refine gcV (index := 254) S hE (c_X10_ancestorMask ad a_m_fam m_undoCount m_thrown m_hasSnapshot m_rows m_lineLength m_formattedLength m_bufferLength m_limit m_next m_beginsAt m_token m_error m_errorAt m_errorPosition m_nested m_codeCount m_fam r4 r7 h9) mX10_ancestorMask tw1648 ⟨Nat.le_of_ble_eq_true rfl, Nat.le_of_ble_eq_true rfl⟩ hP hD hS hA ⟨Nat.zero_le _, Nat.zero_le _⟩ 0 10 rfl rfl rfl (wr := []) [0, 1] [] rfl rfl rfl rfl (by decide) (As := [.int r4]) (rest := []) rfl hl.1 rfl (Nat.le_of_ble_eq_true rfl) dX10_isAncestorOfBoth_7 (fun H locs hP hD hS => ?_)
  refine W.eq (g2 := F0 m 10 ls [.int r7]) rfl ?_
  have hP : va_P (dC, dI) vwCl [(ad 0, .inr (10, oM ad m_undoCount m_thrown m_hasSnapshot a_m_fam m_rows m_lineLength m_formattedLength m_bufferLength m_limit m_next m_beginsAt m_token m_error m_errorAt m_errorPosition m_nested m_codeCount)), (a_m_fam, .inl (cJ, 130, .inr (.inl m_fam)))] H := hP
  have hD : va_D A [(ad 0, .inr (10, oM ad m_undoCount m_thrown m_hasSnapshot a_m_fam m_rows m_lineLength m_formattedLength m_bufferLength m_limit m_next m_beginsAt m_token m_error m_errorAt m_errorPosition m_nested m_codeCount)), (a_m_fam, .inl (cJ, 130, .inr (.inl m_fam)))] := hD
  refine lv_aload_n hx hb dX10_isAncestorOfBoth_10 rfl (lv_at hl 0 rfl) ?_
  refine lv_aload_n hx hb dX10_isAncestorOfBoth_11 rfl (lv_at hl 0 rfl) ?_
  refine lv_iload_n hx hb dX10_isAncestorOfBoth_12 rfl (lv_at hl 1 rfl) ?_
  refine lv_iconst (v := 1) hx hb dX10_isAncestorOfBoth_13 (by decide) ?_
  obtain ⟨r14, h9, hf⟩ := ob_s hf
  refine gcV (index := 102) S hE (c_X10_partner ad a_m_fam m_undoCount m_thrown m_hasSnapshot m_rows m_lineLength m_formattedLength m_bufferLength m_limit m_next m_beginsAt m_token m_error m_errorAt m_errorPosition m_nested m_codeCount m_fam v1 (1 : Int32) r14 h9) mX10_partner tw1527 ⟨Nat.le_of_ble_eq_true rfl, Nat.le_of_ble_eq_true rfl⟩ hP hD hS hA ⟨Nat.zero_le _, Nat.zero_le _⟩ 0 10 rfl rfl rfl (wr := []) [0, 1] [] rfl rfl rfl rfl (by decide) (As := [.int v1, .int (1 : Int32)]) (rest := [.ref (ad 0), .int r7]) rfl hl.1 rfl (Nat.le_of_ble_eq_true rfl) dX10_isAncestorOfBoth_14 (fun H locs hP hD hS => ?_)
  refine W.eq (g2 := F0 m 17 ls [.int r14, .ref (ad 0), .int r7]) rfl ?_
  have hP : va_P (dC, dI) vwCl [(ad 0, .inr (10, oM ad m_undoCount m_thrown m_hasSnapshot a_m_fam m_rows m_lineLength m_formattedLength m_bufferLength m_limit m_next m_beginsAt m_token m_error m_errorAt m_errorPosition m_nested m_codeCount)), (a_m_fam, .inl (cJ, 130, .inr (.inl m_fam)))] H := hP
  have hD : va_D A [(ad 0, .inr (10, oM ad m_undoCount m_thrown m_hasSnapshot a_m_fam m_rows m_lineLength m_formattedLength m_bufferLength m_limit m_next m_beginsAt m_token m_error m_errorAt m_errorPosition m_nested m_codeCount)), (a_m_fam, .inl (cJ, 130, .inr (.inl m_fam)))] := hD
  obtain ⟨r17, h9, hf⟩ := ob_s hf
  refine gcV (index := 254) S hE (c_X10_ancestorMask ad a_m_fam m_undoCount m_thrown m_hasSnapshot m_rows m_lineLength m_formattedLength m_bufferLength m_limit m_next m_beginsAt m_token m_error m_errorAt m_errorPosition m_nested m_codeCount m_fam r14 r17 h9) mX10_ancestorMask tw1648 ⟨Nat.le_of_ble_eq_true rfl, Nat.le_of_ble_eq_true rfl⟩ hP hD hS hA ⟨Nat.zero_le _, Nat.zero_le _⟩ 0 10 rfl rfl rfl (wr := []) [0, 1] [] rfl rfl rfl rfl (by decide) (As := [.int r14]) (rest := [.int r7]) rfl hl.1 rfl (Nat.le_of_ble_eq_true rfl) dX10_isAncestorOfBoth_17 (fun H locs hP hD hS => ?_)
  refine W.eq (g2 := F0 m 20 ls [.int r17, .int r7]) rfl ?_
  have hP : va_P (dC, dI) vwCl [(ad 0, .inr (10, oM ad m_undoCount m_thrown m_hasSnapshot a_m_fam m_rows m_lineLength m_formattedLength m_bufferLength m_limit m_next m_beginsAt m_token m_error m_errorAt m_errorPosition m_nested m_codeCount)), (a_m_fam, .inl (cJ, 130, .inr (.inl m_fam)))] H := hP
  have hD : va_D A [(ad 0, .inr (10, oM ad m_undoCount m_thrown m_hasSnapshot a_m_fam m_rows m_lineLength m_formattedLength m_bufferLength m_limit m_next m_beginsAt m_token m_error m_errorAt m_errorPosition m_nested m_codeCount)), (a_m_fam, .inl (cJ, 130, .inr (.inl m_fam)))] := hD
  refine lv_ior hx hb dX10_isAncestorOfBoth_20 ?_
  refine lv_topi (fun t21 h9 => ?_)
  have hf := lb_e h9 hf
  refine lv_istore_n (lv' := [(3, .int t21), (0, .ref (ad 0)), (1, .int v1), (2, .int v2)]) hx hb dX10_isAncestorOfBoth_21 rfl hl (by decide) rfl (fun ls hl => ?_)
  refine lv_aload_n hx hb dX10_isAncestorOfBoth_22 rfl (lv_at hl 1 rfl) ?_
  refine lv_iload_n hx hb dX10_isAncestorOfBoth_23 rfl (lv_at hl 2 rfl) ?_
  refine lv_iload_n hx hb dX10_isAncestorOfBoth_24 rfl (lv_at hl 3 rfl) ?_
  obtain ⟨r25, h9, hf⟩ := ob_s hf
  refine gcV (index := 113) S hE (c_X10_isPartner ad a_m_fam m_undoCount m_thrown m_hasSnapshot m_rows m_lineLength m_formattedLength m_bufferLength m_limit m_next m_beginsAt m_token m_error m_errorAt m_errorPosition m_nested m_codeCount m_fam v1 v2 r25 h9) mX10_isPartner tw1564 ⟨Nat.le_of_ble_eq_true rfl, Nat.le_of_ble_eq_true rfl⟩ hP hD hS hA ⟨Nat.zero_le _, Nat.zero_le _⟩ 0 10 rfl rfl rfl (wr := []) [0, 1] [] rfl rfl rfl rfl (by decide) (As := [.int v1, .int v2]) (rest := []) rfl hl.1 rfl (Nat.le_of_ble_eq_true rfl) dX10_isAncestorOfBoth_25 (fun H locs hP hD hS => ?_)
  refine W.eq (g2 := F0 m 28 ls [.int (bI r25)]) rfl ?_
  have hP : va_P (dC, dI) vwCl [(ad 0, .inr (10, oM ad m_undoCount m_thrown m_hasSnapshot a_m_fam m_rows m_lineLength m_formattedLength m_bufferLength m_limit m_next m_beginsAt m_token m_error m_errorAt m_errorPosition m_nested m_codeCount)), (a_m_fam, .inl (cJ, 130, .inr (.inl m_fam)))] H := hP
  have hD : va_D A [(ad 0, .inr (10, oM ad m_undoCount m_thrown m_hasSnapshot a_m_fam m_rows m_lineLength m_formattedLength m_bufferLength m_limit m_next m_beginsAt m_token m_error m_errorAt m_errorPosition m_nested m_codeCount)), (a_m_fam, .inl (cJ, 130, .inr (.inl m_fam)))] := hD
  refine lv_if_ne (tgt := 40) hx hb dX10_isAncestorOfBoth_28 (by decide) (fun h9 => ?_) (fun h9 => ?_)
  · have hf := ctt (bI_1 h9) hf
    refine lv_iconst (v := 1) hx hb dX10_isAncestorOfBoth_40 (by decide) ?_
    refine lv_goto (tgt := 45) hx hb dX10_isAncestorOfBoth_41 (by decide) ?_
    cases hf
    exact g_zret S hr (nar_bI true) hlocks hP hD hS dX10_isAncestorOfBoth_45
  · have hf := ctf (bI_0 h9) hf
    refine lv_iload_n hx hb dX10_isAncestorOfBoth_31 rfl (lv_at hl 0 rfl) ?_
    refine lv_iload_n hx hb dX10_isAncestorOfBoth_32 rfl (lv_at hl 3 rfl) ?_
    refine lv_ishr hx hb dX10_isAncestorOfBoth_33 ?_
    refine lv_iconst (v := 1) hx hb dX10_isAncestorOfBoth_34 (by decide) ?_
    refine lv_iand hx hb dX10_isAncestorOfBoth_35 ?_
    refine lv_iconst (v := 1) hx hb dX10_isAncestorOfBoth_36 (by decide) ?_
    refine lv_icmp_ne (tgt := 44) hx hb dX10_isAncestorOfBoth_37 (by decide) (fun h9 => ?_) (fun h9 => ?_)
    · have hf := itf h9 hf
      refine lv_iconst (v := 0) hx hb dX10_isAncestorOfBoth_44 (by decide) ?_
      cases hf
      exact g_zret S hr (nar_bI false) hlocks hP hD hS dX10_isAncestorOfBoth_45
    · have hf := itt h9 hf
      refine lv_iconst (v := 1) hx hb dX10_isAncestorOfBoth_40 (by decide) ?_
      refine lv_goto (tgt := 45) hx hb dX10_isAncestorOfBoth_41 (by decide) ?_
      cases hf
      exact g_zret S hr (nar_bI true) hlocks hP hD hS dX10_isAncestorOfBoth_45
set_option maxHeartbeats 4000000 in
set_option maxRecDepth 100000 in
theorem c_X10_improveOnce (ad : Nat → Nat) (a_m_fam : Nat) (m_undoCount : Int32) (m_thrown : Int32) (m_hasSnapshot : Bool) (m_rows : Int32) (m_lineLength : Int32) (m_formattedLength : Int32) (m_bufferLength : Int32) (m_limit : Int32) (m_next : Int32) (m_beginsAt : Int32) (m_token : Int32) (m_error : Int32) (m_errorAt : Int32) (m_errorPosition : Int32) (m_nested : Int32) (m_codeCount : Int32) (m_boxAt : Nat → Int32) (m_fam : Nat → Int64) (m_generation : Nat → Int32) (m_level : Nat → Int32) (m_rowSize : Nat → Int32) (r9 : Int32) (m_boxAt_9 : Nat → Int32) (m_fam_9 : Nat → Int64) (hf : p10_improveOnce m_rows m_boxAt m_fam m_generation m_level m_rowSize = some (r9, m_boxAt_9, m_fam_9)) : gM l dC dI cI cJ cZ yX10_improveOnce cX10_improveOnce 5 (some .int) (5) (118) [.ref (ad 0)] [(ad 0, .inr (10, oM ad m_undoCount m_thrown m_hasSnapshot a_m_fam m_rows m_lineLength m_formattedLength m_bufferLength m_limit m_next m_beginsAt m_token m_error m_errorAt m_errorPosition m_nested m_codeCount)), ((ad 14), .inl (cI, 448, .inl m_boxAt)), (a_m_fam, .inl (cJ, 130, .inr (.inl m_fam))), ((ad 9), .inl (cI, 16, .inl m_generation)), ((ad 10), .inl (cI, 12, .inl m_level)), ((ad 11), .inl (cI, 16, .inl m_rowSize))] [(ad 0, .inr (10, oM ad m_undoCount m_thrown m_hasSnapshot a_m_fam m_rows m_lineLength m_formattedLength m_bufferLength m_limit m_next m_beginsAt m_token m_error m_errorAt m_errorPosition m_nested m_codeCount)), ((ad 14), .inl (cI, 448, .inl m_boxAt_9)), (a_m_fam, .inl (cJ, 130, .inr (.inl m_fam_9))), ((ad 9), .inl (cI, 16, .inl m_generation)), ((ad 10), .inl (cI, 12, .inl m_level)), ((ad 11), .inl (cI, 16, .inl m_rowSize))] (some (.int r9)) := by
  refine g_start (own := RX10) (by decide +kernel) rfl (Nat.le_of_ble_eq_true rfl) ?_
  intro p e s m below meth c A ls S hr hlocks hE hP hD hS hA hl hin
  have hx := S.1
  have hb := S.2.1
  have hml := S.2.2.1
  have hown := S.2.2.2.1
  have htg : ∀ z ∈ gw, z.before ([.ref (ad 0)] : List Value).toArray s = true := fun w h => S.2.2.2.2 w (List.mem_cons_of_mem _ h)
  have hl : lv_has ls 5 [(0, .ref (ad 0))] := hl
  have hS0 := hS
  obtain ⟨H, hH⟩ : ∃ H, H = s.heap := ⟨_, rfl⟩
  obtain ⟨locs, hlc⟩ : ∃ locs : List Loc, locs = [] := ⟨_, rfl⟩
  have hS : va_S A s.heap H locs := by rw [hH, hlc]; exact hS0
  have hP : va_P (dC, dI) vwCl [(ad 0, .inr (10, oM ad m_undoCount m_thrown m_hasSnapshot a_m_fam m_rows m_lineLength m_formattedLength m_bufferLength m_limit m_next m_beginsAt m_token m_error m_errorAt m_errorPosition m_nested m_codeCount)), ((ad 14), .inl (cI, 448, .inl m_boxAt)), (a_m_fam, .inl (cJ, 130, .inr (.inl m_fam))), ((ad 9), .inl (cI, 16, .inl m_generation)), ((ad 10), .inl (cI, 12, .inl m_level)), ((ad 11), .inl (cI, 16, .inl m_rowSize))] H := by rw [hH]; exact hP
  suffices hgo : W p l e ({ frames := 5, cells := 0, slots := 0, locals := 118 }) s m ([.ref (ad 0)] : List Value).toArray below meth c H locs 0 0 (MQ below (gQ dC dI (some (.int r9)) A [(ad 0, .inr (10, oM ad m_undoCount m_thrown m_hasSnapshot a_m_fam m_rows m_lineLength m_formattedLength m_bufferLength m_limit m_next m_beginsAt m_token m_error m_errorAt m_errorPosition m_nested m_codeCount)), ((ad 14), .inl (cI, 448, .inl m_boxAt_9)), (a_m_fam, .inl (cJ, 130, .inr (.inl m_fam_9))), ((ad 9), .inl (cI, 16, .inl m_generation)), ((ad 10), .inl (cI, 12, .inl m_level)), ((ad 11), .inl (cI, 16, .inl m_rowSize))]) ([.ref (ad 0)] : List Value).toArray s 0 0 A) (F0 m 0 ls []) by rw [hH, hlc] at hgo; exact hgo
  rw [p10_improveOnce] at hf
  have J77 : ∀ (v1_77 : Int32) (m_boxAt_77 : Nat → Int32) (m_fam_77 : Nat → Int64) (H : Heap) (locs : List Loc) (ls : Array Slot), p10_improveOnce_J77 v1_77 m_boxAt_77 m_fam_77 = some (r9, m_boxAt_9, m_fam_9) → va_P (dC, dI) vwCl [(ad 0, .inr (10, oM ad m_undoCount m_thrown m_hasSnapshot a_m_fam m_rows m_lineLength m_formattedLength m_bufferLength m_limit m_next m_beginsAt m_token m_error m_errorAt m_errorPosition m_nested m_codeCount)), ((ad 14), .inl (cI, 448, .inl m_boxAt_77)), (a_m_fam, .inl (cJ, 130, .inr (.inl m_fam_77))), ((ad 9), .inl (cI, 16, .inl m_generation)), ((ad 10), .inl (cI, 12, .inl m_level)), ((ad 11), .inl (cI, 16, .inl m_rowSize))] H → va_D A [(ad 0, .inr (10, oM ad m_undoCount m_thrown m_hasSnapshot a_m_fam m_rows m_lineLength m_formattedLength m_bufferLength m_limit m_next m_beginsAt m_token m_error m_errorAt m_errorPosition m_nested m_codeCount)), ((ad 14), .inl (cI, 448, .inl m_boxAt_77)), (a_m_fam, .inl (cJ, 130, .inr (.inl m_fam_77))), ((ad 9), .inl (cI, 16, .inl m_generation)), ((ad 10), .inl (cI, 12, .inl m_level)), ((ad 11), .inl (cI, 16, .inl m_rowSize))] → va_S A s.heap H locs → lv_has ls 5 [(1, .int v1_77)] → W p l e ({ frames := 5, cells := 0, slots := 0, locals := 118 }) s m ([.ref (ad 0)] : List Value).toArray below meth c H locs 0 0 (MQ below (gQ dC dI (some (.int r9)) A [(ad 0, .inr (10, oM ad m_undoCount m_thrown m_hasSnapshot a_m_fam m_rows m_lineLength m_formattedLength m_bufferLength m_limit m_next m_beginsAt m_token m_error m_errorAt m_errorPosition m_nested m_codeCount)), ((ad 14), .inl (cI, 448, .inl m_boxAt_9)), (a_m_fam, .inl (cJ, 130, .inr (.inl m_fam_9))), ((ad 9), .inl (cI, 16, .inl m_generation)), ((ad 10), .inl (cI, 12, .inl m_level)), ((ad 11), .inl (cI, 16, .inl m_rowSize))]) ([.ref (ad 0)] : List Value).toArray s 0 0 A) (F0 m 77 ls []) := by
    intro v1_77 m_boxAt_77 m_fam_77 H locs ls hf hP hD hS hl
    rw [p10_improveOnce_J77] at hf
    refine lv_iload_n hx hb dX10_improveOnce_77 rfl (lv_at hl 0 rfl) ?_
    cases hf
    exact g_iret S hr hlocks hP hD hS dX10_improveOnce_78
  refine lv_iconst (v := 0) hx hb dX10_improveOnce_0 (by decide) ?_
  refine lv_istore_n (lv' := [(1, .int (0 : Int32)), (0, .ref (ad 0))]) hx hb dX10_improveOnce_1 rfl hl (by decide) rfl (fun ls hl => ?_)
  refine lv_iconst (v := 0) hx hb dX10_improveOnce_2 (by decide) ?_
  refine lv_istore_n (lv' := [(2, .int (0 : Int32)), (1, .int (0 : Int32)), (0, .ref (ad 0))]) hx hb dX10_improveOnce_3 rfl hl (by decide) rfl (fun ls hl => ?_)
  have K4 : ∀ (n4 : Nat) (v1_4 : Int32) (v2_4 : Int32) (m_boxAt_4 : Nat → Int32) (m_fam_4 : Nat → Int64) (ex4 : Int32 × (Nat → Int32) × (Nat → Int64)) (H : Heap) (locs : List Loc) (ls : Array Slot), p10_improveOnce_L4 m_generation m_level m_rowSize m_rows n4 v1_4 v2_4 m_boxAt_4 m_fam_4 = some ex4 → (uc3 fun v1_x4 m_boxAt_x4 m_fam_x4 => p10_improveOnce_J77 v1_x4 m_boxAt_x4 m_fam_x4) ex4 = some (r9, m_boxAt_9, m_fam_9) → va_P (dC, dI) vwCl [(ad 0, .inr (10, oM ad m_undoCount m_thrown m_hasSnapshot a_m_fam m_rows m_lineLength m_formattedLength m_bufferLength m_limit m_next m_beginsAt m_token m_error m_errorAt m_errorPosition m_nested m_codeCount)), ((ad 14), .inl (cI, 448, .inl m_boxAt_4)), (a_m_fam, .inl (cJ, 130, .inr (.inl m_fam_4))), ((ad 9), .inl (cI, 16, .inl m_generation)), ((ad 10), .inl (cI, 12, .inl m_level)), ((ad 11), .inl (cI, 16, .inl m_rowSize))] H → va_D A [(ad 0, .inr (10, oM ad m_undoCount m_thrown m_hasSnapshot a_m_fam m_rows m_lineLength m_formattedLength m_bufferLength m_limit m_next m_beginsAt m_token m_error m_errorAt m_errorPosition m_nested m_codeCount)), ((ad 14), .inl (cI, 448, .inl m_boxAt_4)), (a_m_fam, .inl (cJ, 130, .inr (.inl m_fam_4))), ((ad 9), .inl (cI, 16, .inl m_generation)), ((ad 10), .inl (cI, 12, .inl m_level)), ((ad 11), .inl (cI, 16, .inl m_rowSize))] → va_S A s.heap H locs → lv_has ls 5 [(0, .ref (ad 0)), (1, .int v1_4), (2, .int v2_4)] → W p l e ({ frames := 5, cells := 0, slots := 0, locals := 118 }) s m ([.ref (ad 0)] : List Value).toArray below meth c H locs 0 0 (MQ below (gQ dC dI (some (.int r9)) A [(ad 0, .inr (10, oM ad m_undoCount m_thrown m_hasSnapshot a_m_fam m_rows m_lineLength m_formattedLength m_bufferLength m_limit m_next m_beginsAt m_token m_error m_errorAt m_errorPosition m_nested m_codeCount)), ((ad 14), .inl (cI, 448, .inl m_boxAt_9)), (a_m_fam, .inl (cJ, 130, .inr (.inl m_fam_9))), ((ad 9), .inl (cI, 16, .inl m_generation)), ((ad 10), .inl (cI, 12, .inl m_level)), ((ad 11), .inl (cI, 16, .inl m_rowSize))]) ([.ref (ad 0)] : List Value).toArray s 0 0 A) (F0 m 4 ls []) := by
    intro n4
    induction n4 with
    | zero => intro v1_4 v2_4 m_boxAt_4 m_fam_4 ex4 H locs ls hf; rw [p10_improveOnce_L4] at hf; cases hf
    | succ n4 ih4 =>
      intro v1_4 v2_4 m_boxAt_4 m_fam_4 ex4 H locs ls hf hk4 hP hD hS hl
      rw [p10_improveOnce_L4, p10_improveOnce_L4_B] at hf
      have J71 : ∀ (v1_71 : Int32) (m_boxAt_71 : Nat → Int32) (m_fam_71 : Nat → Int64) (H : Heap) (locs : List Loc) (ls : Array Slot), p10_improveOnce_J71 (p10_improveOnce_L4 m_generation m_level m_rowSize m_rows n4) v2_4 v1_71 m_boxAt_71 m_fam_71 = some ex4 → va_P (dC, dI) vwCl [(ad 0, .inr (10, oM ad m_undoCount m_thrown m_hasSnapshot a_m_fam m_rows m_lineLength m_formattedLength m_bufferLength m_limit m_next m_beginsAt m_token m_error m_errorAt m_errorPosition m_nested m_codeCount)), ((ad 14), .inl (cI, 448, .inl m_boxAt_71)), (a_m_fam, .inl (cJ, 130, .inr (.inl m_fam_71))), ((ad 9), .inl (cI, 16, .inl m_generation)), ((ad 10), .inl (cI, 12, .inl m_level)), ((ad 11), .inl (cI, 16, .inl m_rowSize))] H → va_D A [(ad 0, .inr (10, oM ad m_undoCount m_thrown m_hasSnapshot a_m_fam m_rows m_lineLength m_formattedLength m_bufferLength m_limit m_next m_beginsAt m_token m_error m_errorAt m_errorPosition m_nested m_codeCount)), ((ad 14), .inl (cI, 448, .inl m_boxAt_71)), (a_m_fam, .inl (cJ, 130, .inr (.inl m_fam_71))), ((ad 9), .inl (cI, 16, .inl m_generation)), ((ad 10), .inl (cI, 12, .inl m_level)), ((ad 11), .inl (cI, 16, .inl m_rowSize))] → va_S A s.heap H locs → lv_has ls 5 [(0, .ref (ad 0)), (1, .int v1_71), (2, .int v2_4)] → W p l e ({ frames := 5, cells := 0, slots := 0, locals := 118 }) s m ([.ref (ad 0)] : List Value).toArray below meth c H locs 0 0 (MQ below (gQ dC dI (some (.int r9)) A [(ad 0, .inr (10, oM ad m_undoCount m_thrown m_hasSnapshot a_m_fam m_rows m_lineLength m_formattedLength m_bufferLength m_limit m_next m_beginsAt m_token m_error m_errorAt m_errorPosition m_nested m_codeCount)), ((ad 14), .inl (cI, 448, .inl m_boxAt_9)), (a_m_fam, .inl (cJ, 130, .inr (.inl m_fam_9))), ((ad 9), .inl (cI, 16, .inl m_generation)), ((ad 10), .inl (cI, 12, .inl m_level)), ((ad 11), .inl (cI, 16, .inl m_rowSize))]) ([.ref (ad 0)] : List Value).toArray s 0 0 A) (F0 m 71 ls []) := by
        intro v1_71 m_boxAt_71 m_fam_71 H locs ls hf hP hD hS hl
        rw [p10_improveOnce_J71] at hf
        obtain ⟨t71, h9⟩ : ∃ z : Int32, z = (v2_4 + (1 : Int32)) := ⟨_, rfl⟩
        have hf := lb_e h9 hf
        refine lv_iinc (v := t71) (lv' := [(2, .int t71), (0, .ref (ad 0)), (1, .int v1_71)]) hx hb dX10_improveOnce_71 hl (k := 2) rfl (by rw [h9]; rfl) (by decide) rfl (fun ls hl => ?_)
        refine lv_goto (tgt := 4) hx hb dX10_improveOnce_74 (by decide) ?_
        exact ih4 v1_71 t71 m_boxAt_71 m_fam_71 ex4 H locs ls hf hk4 hP hD hS (lv_sub hl [1, 2, 0] rfl)
      refine lv_iload_n hx hb dX10_improveOnce_4 rfl (lv_at hl 2 rfl) ?_
      refine lv_aload_n hx hb dX10_improveOnce_5 rfl (lv_at hl 0 rfl) ?_
      refine va_get (D := (dC, dI)) (ci := 10) (v := .int m_rows) (C := RX10) (T := TX10) (N := 37) hx hb htg inX10 hown hE.1 hP 0 rfl rfl 14 (by decide) (htg _ tw1396) (fun _ h9 => h9) rfl dX10_improveOnce_6 ?_
      refine lv_icmp_ge (tgt := 77) hx hb dX10_improveOnce_9 (by decide) (fun h9 => ?_) (fun h9 => ?_)
      · have hf := itt h9 hf
        cases hf
        have hf := hk4
        have hf := uc3_e hf
        exact J77 v1_4 m_boxAt_4 m_fam_4 H locs ls hf hP hD hS (lv_sub hl [1] rfl)
      · have hf := itf h9 hf
        refine lv_iconst (v := 0) hx hb dX10_improveOnce_12 (by decide) ?_
        refine lv_istore_n (lv' := [(3, .int (0 : Int32)), (0, .ref (ad 0)), (1, .int v1_4), (2, .int v2_4)]) hx hb dX10_improveOnce_13 rfl hl (by decide) rfl (fun ls hl => ?_)
        have K14 : ∀ (n14 : Nat) (v1_14 : Int32) (v3_14 : Int32) (m_boxAt_14 : Nat → Int32) (m_fam_14 : Nat → Int64) (ex14 : Int32 × (Nat → Int32) × (Nat → Int64)) (H : Heap) (locs : List Loc) (ls : Array Slot), p10_improveOnce_L14 m_generation m_level m_rowSize m_rows v2_4 n14 v1_14 v3_14 m_boxAt_14 m_fam_14 = some ex14 → (uc3 fun v1_x14 m_boxAt_x14 m_fam_x14 => p10_improveOnce_J71 (p10_improveOnce_L4 m_generation m_level m_rowSize m_rows n4) v2_4 v1_x14 m_boxAt_x14 m_fam_x14) ex14 = some ex4 → va_P (dC, dI) vwCl [(ad 0, .inr (10, oM ad m_undoCount m_thrown m_hasSnapshot a_m_fam m_rows m_lineLength m_formattedLength m_bufferLength m_limit m_next m_beginsAt m_token m_error m_errorAt m_errorPosition m_nested m_codeCount)), ((ad 14), .inl (cI, 448, .inl m_boxAt_14)), (a_m_fam, .inl (cJ, 130, .inr (.inl m_fam_14))), ((ad 9), .inl (cI, 16, .inl m_generation)), ((ad 10), .inl (cI, 12, .inl m_level)), ((ad 11), .inl (cI, 16, .inl m_rowSize))] H → va_D A [(ad 0, .inr (10, oM ad m_undoCount m_thrown m_hasSnapshot a_m_fam m_rows m_lineLength m_formattedLength m_bufferLength m_limit m_next m_beginsAt m_token m_error m_errorAt m_errorPosition m_nested m_codeCount)), ((ad 14), .inl (cI, 448, .inl m_boxAt_14)), (a_m_fam, .inl (cJ, 130, .inr (.inl m_fam_14))), ((ad 9), .inl (cI, 16, .inl m_generation)), ((ad 10), .inl (cI, 12, .inl m_level)), ((ad 11), .inl (cI, 16, .inl m_rowSize))] → va_S A s.heap H locs → lv_has ls 5 [(0, .ref (ad 0)), (1, .int v1_14), (2, .int v2_4), (3, .int v3_14)] → W p l e ({ frames := 5, cells := 0, slots := 0, locals := 118 }) s m ([.ref (ad 0)] : List Value).toArray below meth c H locs 0 0 (MQ below (gQ dC dI (some (.int r9)) A [(ad 0, .inr (10, oM ad m_undoCount m_thrown m_hasSnapshot a_m_fam m_rows m_lineLength m_formattedLength m_bufferLength m_limit m_next m_beginsAt m_token m_error m_errorAt m_errorPosition m_nested m_codeCount)), ((ad 14), .inl (cI, 448, .inl m_boxAt_9)), (a_m_fam, .inl (cJ, 130, .inr (.inl m_fam_9))), ((ad 9), .inl (cI, 16, .inl m_generation)), ((ad 10), .inl (cI, 12, .inl m_level)), ((ad 11), .inl (cI, 16, .inl m_rowSize))]) ([.ref (ad 0)] : List Value).toArray s 0 0 A) (F0 m 14 ls []) := by
          intro n14
          induction n14 with
          | zero => intro v1_14 v3_14 m_boxAt_14 m_fam_14 ex14 H locs ls hf; rw [p10_improveOnce_L14] at hf; cases hf
          | succ n14 ih14 =>
            intro v1_14 v3_14 m_boxAt_14 m_fam_14 ex14 H locs ls hf hk14 hP hD hS hl
            rw [p10_improveOnce_L14, p10_improveOnce_L14_B] at hf
            refine lv_iload_n hx hb dX10_improveOnce_14 rfl (lv_at hl 3 rfl) ?_
            refine lv_iconst (v := 1) hx hb dX10_improveOnce_15 (by decide) ?_
            refine lv_iadd hx hb dX10_improveOnce_16 ?_
            refine lv_aload_n hx hb dX10_improveOnce_17 rfl (lv_at hl 0 rfl) ?_
            refine va_get (D := (dC, dI)) (ci := 10) (v := .ref (ad 11)) (C := RX10) (T := TX10) (N := 37) hx hb htg inX10 hown hE.1 hP 0 rfl rfl 10 (by decide) (htg _ tw1392) (fun _ h9 => h9) rfl dX10_improveOnce_18 ?_
            refine lv_iload_n hx hb dX10_improveOnce_21 rfl (lv_at hl 2 rfl) ?_
            obtain ⟨h9, hf⟩ := gd_s hf
            refine va_iald hx hb hE.1 hP 5 0 rfl rfl h9 dX10_improveOnce_22 ?_
            refine lv_icmp_ge (tgt := 71) hx hb dX10_improveOnce_23 (by decide) (fun h9 => ?_) (fun h9 => ?_)
            · have hf := itt h9 hf
              cases hf
              have hf := hk14
              have hf := uc3_e hf
              exact J71 v1_14 m_boxAt_14 m_fam_14 H locs ls hf hP hD hS (lv_sub hl [0, 1, 2] rfl)
            · have hf := itf h9 hf
              refine lv_aload_n hx hb dX10_improveOnce_26 rfl (lv_at hl 0 rfl) ?_
              obtain ⟨r27, h9, hf⟩ := ob_s hf
              refine gcV (index := 297) S hE (c_X10_allCrossings ad a_m_fam m_undoCount m_thrown m_hasSnapshot m_rows m_lineLength m_formattedLength m_bufferLength m_limit m_next m_beginsAt m_token m_error m_errorAt m_errorPosition m_nested m_codeCount m_fam_14 m_generation m_level r27 h9) mX10_allCrossings tw1737 ⟨Nat.le_of_ble_eq_true rfl, Nat.le_of_ble_eq_true rfl⟩ hP hD hS hA ⟨Nat.zero_le _, Nat.zero_le _⟩ 0 10 rfl rfl rfl (wr := [((ad 14), .inl (cI, 448, .inl m_boxAt_14)), ((ad 11), .inl (cI, 16, .inl m_rowSize))]) [0, 2, 3, 4] [1, 5] rfl rfl rfl rfl (by decide) (As := []) (rest := []) rfl hl.1 rfl (Nat.le_of_ble_eq_true rfl) dX10_improveOnce_27 (fun H locs hP hD hS => ?_)
              refine W.eq (g2 := F0 m 30 ls [.int r27]) rfl ?_
              have hP : va_P (dC, dI) vwCl [((ad 14), .inl (cI, 448, .inl m_boxAt_14)), ((ad 11), .inl (cI, 16, .inl m_rowSize)), (ad 0, .inr (10, oM ad m_undoCount m_thrown m_hasSnapshot a_m_fam m_rows m_lineLength m_formattedLength m_bufferLength m_limit m_next m_beginsAt m_token m_error m_errorAt m_errorPosition m_nested m_codeCount)), (a_m_fam, .inl (cJ, 130, .inr (.inl m_fam_14))), ((ad 9), .inl (cI, 16, .inl m_generation)), ((ad 10), .inl (cI, 12, .inl m_level))] H := hP
              have hD : va_D A [((ad 14), .inl (cI, 448, .inl m_boxAt_14)), ((ad 11), .inl (cI, 16, .inl m_rowSize)), (ad 0, .inr (10, oM ad m_undoCount m_thrown m_hasSnapshot a_m_fam m_rows m_lineLength m_formattedLength m_bufferLength m_limit m_next m_beginsAt m_token m_error m_errorAt m_errorPosition m_nested m_codeCount)), (a_m_fam, .inl (cJ, 130, .inr (.inl m_fam_14))), ((ad 9), .inl (cI, 16, .inl m_generation)), ((ad 10), .inl (cI, 12, .inl m_level))] := hD
              refine lv_istore (lv' := [(4, .int r27), (0, .ref (ad 0)), (1, .int v1_14), (2, .int v2_4), (3, .int v3_14)]) hx hb dX10_improveOnce_30 hl (by decide) rfl (fun ls hl => ?_)
              refine lv_aload_n hx hb dX10_improveOnce_32 rfl (lv_at hl 1 rfl) ?_
              refine lv_iload_n hx hb dX10_improveOnce_33 rfl (lv_at hl 3 rfl) ?_
              refine lv_iload_n hx hb dX10_improveOnce_34 rfl (lv_at hl 4 rfl) ?_
              refine lv_iload_n hx hb dX10_improveOnce_35 rfl (lv_at hl 4 rfl) ?_
              refine lv_iconst (v := 1) hx hb dX10_improveOnce_36 (by decide) ?_
              refine lv_iadd hx hb dX10_improveOnce_37 ?_
              obtain ⟨⟨m_boxAt_38, m_fam_38⟩, h9, hf⟩ := ob_s hf
              have hf := uc2_e hf
              refine gcV (index := 300) S hE (c_X10_exchange ad a_m_fam m_undoCount m_thrown m_hasSnapshot m_rows m_lineLength m_formattedLength m_bufferLength m_limit m_next m_beginsAt m_token m_error m_errorAt m_errorPosition m_nested m_codeCount m_boxAt_14 m_fam_14 v2_4 v3_14 (v3_14 + (1 : Int32)) m_boxAt_38 m_fam_38 h9) mX10_exchange tw1769 ⟨Nat.le_of_ble_eq_true rfl, Nat.le_of_ble_eq_true rfl⟩ hP hD hS hA ⟨Nat.zero_le _, Nat.zero_le _⟩ 2 10 rfl rfl rfl (wr := [((ad 11), .inl (cI, 16, .inl m_rowSize)), ((ad 9), .inl (cI, 16, .inl m_generation)), ((ad 10), .inl (cI, 12, .inl m_level))]) [2, 0, 3] [1, 4, 5] rfl rfl rfl rfl (by decide) (As := [.int v2_4, .int v3_14, .int (v3_14 + (1 : Int32))]) (rest := []) rfl hl.1 rfl (Nat.le_of_ble_eq_true rfl) dX10_improveOnce_38 (fun H locs hP hD hS => ?_)
              refine W.eq (g2 := F0 m 41 ls []) rfl ?_
              have hP : va_P (dC, dI) vwCl [((ad 11), .inl (cI, 16, .inl m_rowSize)), ((ad 9), .inl (cI, 16, .inl m_generation)), ((ad 10), .inl (cI, 12, .inl m_level)), (ad 0, .inr (10, oM ad m_undoCount m_thrown m_hasSnapshot a_m_fam m_rows m_lineLength m_formattedLength m_bufferLength m_limit m_next m_beginsAt m_token m_error m_errorAt m_errorPosition m_nested m_codeCount)), ((ad 14), .inl (cI, 448, .inl m_boxAt_38)), (a_m_fam, .inl (cJ, 130, .inr (.inl m_fam_38)))] H := hP
              have hD : va_D A [((ad 11), .inl (cI, 16, .inl m_rowSize)), ((ad 9), .inl (cI, 16, .inl m_generation)), ((ad 10), .inl (cI, 12, .inl m_level)), (ad 0, .inr (10, oM ad m_undoCount m_thrown m_hasSnapshot a_m_fam m_rows m_lineLength m_formattedLength m_bufferLength m_limit m_next m_beginsAt m_token m_error m_errorAt m_errorPosition m_nested m_codeCount)), ((ad 14), .inl (cI, 448, .inl m_boxAt_38)), (a_m_fam, .inl (cJ, 130, .inr (.inl m_fam_38)))] := hD
              refine lv_aload_n hx hb dX10_improveOnce_41 rfl (lv_at hl 1 rfl) ?_
              obtain ⟨r42, h9, hf⟩ := ob_s hf
              refine gcV (index := 297) S hE (c_X10_allCrossings ad a_m_fam m_undoCount m_thrown m_hasSnapshot m_rows m_lineLength m_formattedLength m_bufferLength m_limit m_next m_beginsAt m_token m_error m_errorAt m_errorPosition m_nested m_codeCount m_fam_38 m_generation m_level r42 h9) mX10_allCrossings tw1737 ⟨Nat.le_of_ble_eq_true rfl, Nat.le_of_ble_eq_true rfl⟩ hP hD hS hA ⟨Nat.zero_le _, Nat.zero_le _⟩ 3 10 rfl rfl rfl (wr := [((ad 11), .inl (cI, 16, .inl m_rowSize)), ((ad 14), .inl (cI, 448, .inl m_boxAt_38))]) [3, 5, 1, 2] [0, 4] rfl rfl rfl rfl (by decide) (As := []) (rest := []) rfl hl.1 rfl (Nat.le_of_ble_eq_true rfl) dX10_improveOnce_42 (fun H locs hP hD hS => ?_)
              refine W.eq (g2 := F0 m 45 ls [.int r42]) rfl ?_
              have hP : va_P (dC, dI) vwCl [((ad 11), .inl (cI, 16, .inl m_rowSize)), ((ad 14), .inl (cI, 448, .inl m_boxAt_38)), (ad 0, .inr (10, oM ad m_undoCount m_thrown m_hasSnapshot a_m_fam m_rows m_lineLength m_formattedLength m_bufferLength m_limit m_next m_beginsAt m_token m_error m_errorAt m_errorPosition m_nested m_codeCount)), (a_m_fam, .inl (cJ, 130, .inr (.inl m_fam_38))), ((ad 9), .inl (cI, 16, .inl m_generation)), ((ad 10), .inl (cI, 12, .inl m_level))] H := hP
              have hD : va_D A [((ad 11), .inl (cI, 16, .inl m_rowSize)), ((ad 14), .inl (cI, 448, .inl m_boxAt_38)), (ad 0, .inr (10, oM ad m_undoCount m_thrown m_hasSnapshot a_m_fam m_rows m_lineLength m_formattedLength m_bufferLength m_limit m_next m_beginsAt m_token m_error m_errorAt m_errorPosition m_nested m_codeCount)), (a_m_fam, .inl (cJ, 130, .inr (.inl m_fam_38))), ((ad 9), .inl (cI, 16, .inl m_generation)), ((ad 10), .inl (cI, 12, .inl m_level))] := hD
              refine lv_iload hx hb dX10_improveOnce_45 (lv_at hl 0 rfl) ?_
              refine lv_icmp_ge (tgt := 56) hx hb dX10_improveOnce_47 (by decide) (fun h9 => ?_) (fun h9 => ?_)
              · have hf := itt h9 hf
                refine lv_aload_n hx hb dX10_improveOnce_56 rfl (lv_at hl 1 rfl) ?_
                refine lv_iload_n hx hb dX10_improveOnce_57 rfl (lv_at hl 3 rfl) ?_
                refine lv_iload_n hx hb dX10_improveOnce_58 rfl (lv_at hl 4 rfl) ?_
                refine lv_iload_n hx hb dX10_improveOnce_59 rfl (lv_at hl 4 rfl) ?_
                refine lv_iconst (v := 1) hx hb dX10_improveOnce_60 (by decide) ?_
                refine lv_iadd hx hb dX10_improveOnce_61 ?_
                obtain ⟨⟨m_boxAt_62, m_fam_62⟩, h9, hf⟩ := ob_s hf
                have hf := uc2_e hf
                refine gcV (index := 300) S hE (c_X10_exchange ad a_m_fam m_undoCount m_thrown m_hasSnapshot m_rows m_lineLength m_formattedLength m_bufferLength m_limit m_next m_beginsAt m_token m_error m_errorAt m_errorPosition m_nested m_codeCount m_boxAt_38 m_fam_38 v2_4 v3_14 (v3_14 + (1 : Int32)) m_boxAt_62 m_fam_62 h9) mX10_exchange tw1769 ⟨Nat.le_of_ble_eq_true rfl, Nat.le_of_ble_eq_true rfl⟩ hP hD hS hA ⟨Nat.zero_le _, Nat.zero_le _⟩ 2 10 rfl rfl rfl (wr := [((ad 11), .inl (cI, 16, .inl m_rowSize)), ((ad 9), .inl (cI, 16, .inl m_generation)), ((ad 10), .inl (cI, 12, .inl m_level))]) [2, 1, 3] [0, 4, 5] rfl rfl rfl rfl (by decide) (As := [.int v2_4, .int v3_14, .int (v3_14 + (1 : Int32))]) (rest := []) rfl hl.1 rfl (Nat.le_of_ble_eq_true rfl) dX10_improveOnce_62 (fun H locs hP hD hS => ?_)
                refine W.eq (g2 := F0 m 65 ls []) rfl ?_
                have hP : va_P (dC, dI) vwCl [((ad 11), .inl (cI, 16, .inl m_rowSize)), ((ad 9), .inl (cI, 16, .inl m_generation)), ((ad 10), .inl (cI, 12, .inl m_level)), (ad 0, .inr (10, oM ad m_undoCount m_thrown m_hasSnapshot a_m_fam m_rows m_lineLength m_formattedLength m_bufferLength m_limit m_next m_beginsAt m_token m_error m_errorAt m_errorPosition m_nested m_codeCount)), ((ad 14), .inl (cI, 448, .inl m_boxAt_62)), (a_m_fam, .inl (cJ, 130, .inr (.inl m_fam_62)))] H := hP
                have hD : va_D A [((ad 11), .inl (cI, 16, .inl m_rowSize)), ((ad 9), .inl (cI, 16, .inl m_generation)), ((ad 10), .inl (cI, 12, .inl m_level)), (ad 0, .inr (10, oM ad m_undoCount m_thrown m_hasSnapshot a_m_fam m_rows m_lineLength m_formattedLength m_bufferLength m_limit m_next m_beginsAt m_token m_error m_errorAt m_errorPosition m_nested m_codeCount)), ((ad 14), .inl (cI, 448, .inl m_boxAt_62)), (a_m_fam, .inl (cJ, 130, .inr (.inl m_fam_62)))] := hD
                obtain ⟨t65, h9⟩ : ∃ z : Int32, z = (v3_14 + (1 : Int32)) := ⟨_, rfl⟩
                have hf := lb_e h9 hf
                refine lv_iinc (v := t65) (lv' := [(3, .int t65), (4, .int r27), (0, .ref (ad 0)), (1, .int v1_14), (2, .int v2_4)]) hx hb dX10_improveOnce_65 hl (k := 4) rfl (by rw [h9]; rfl) (by decide) rfl (fun ls hl => ?_)
                refine lv_goto (tgt := 14) hx hb dX10_improveOnce_68 (by decide) ?_
                exact ih14 v1_14 t65 m_boxAt_62 m_fam_62 ex14 H locs ls hf hk14 (hP.sub [3, 4, 5, 1, 2, 0] rfl) (hD.sub [3, 4, 5, 1, 2, 0] (by decide) rfl) hS (lv_sub hl [2, 3, 4, 0] rfl)
              · have hf := itf h9 hf
                obtain ⟨t50, h9⟩ : ∃ z : Int32, z = (v1_14 + (1 : Int32)) := ⟨_, rfl⟩
                have hf := lb_e h9 hf
                refine lv_iinc (v := t50) (lv' := [(1, .int t50), (4, .int r27), (0, .ref (ad 0)), (2, .int v2_4), (3, .int v3_14)]) hx hb dX10_improveOnce_50 hl (k := 2) rfl (by rw [h9]; rfl) (by decide) rfl (fun ls hl => ?_)
                refine lv_goto (tgt := 65) hx hb dX10_improveOnce_53 (by decide) ?_
                obtain ⟨t65, h9⟩ : ∃ z : Int32, z = (v3_14 + (1 : Int32)) := ⟨_, rfl⟩
                have hf := lb_e h9 hf
                refine lv_iinc (v := t65) (lv' := [(3, .int t65), (1, .int t50), (4, .int r27), (0, .ref (ad 0)), (2, .int v2_4)]) hx hb dX10_improveOnce_65 hl (k := 4) rfl (by rw [h9]; rfl) (by decide) rfl (fun ls hl => ?_)
                refine lv_goto (tgt := 14) hx hb dX10_improveOnce_68 (by decide) ?_
                exact ih14 t50 t65 m_boxAt_38 m_fam_38 ex14 H locs ls hf hk14 (hP.sub [2, 1, 3, 4, 5, 0] rfl) (hD.sub [2, 1, 3, 4, 5, 0] (by decide) rfl) hS (lv_sub hl [3, 1, 4, 0] rfl)
        obtain ⟨ex, h9, hf⟩ := ob_s hf
        exact K14 FU v1_4 (0 : Int32) m_boxAt_4 m_fam_4 ex H locs ls h9 hf hP hD hS (lv_sub hl [1, 2, 3, 0] rfl)
  obtain ⟨ex, h9, hf⟩ := ob_s hf
  exact K4 FU (0 : Int32) (0 : Int32) m_boxAt m_fam ex H locs ls h9 hf hP hD hS (lv_sub hl [2, 1, 0] rfl)
set_option maxHeartbeats 4000000 in
set_option maxRecDepth 100000 in
theorem c_X10_mainKey (ad : Nat → Nat) (a_m_fam : Nat) (m_undoCount : Int32) (m_thrown : Int32) (m_hasSnapshot : Bool) (m_rows : Int32) (m_lineLength : Int32) (m_formattedLength : Int32) (m_bufferLength : Int32) (m_limit : Int32) (m_next : Int32) (m_beginsAt : Int32) (m_token : Int32) (m_error : Int32) (m_errorAt : Int32) (m_errorPosition : Int32) (m_nested : Int32) (m_codeCount : Int32) (m_fam : Nat → Int64) (m_generation : Nat → Int32) (m_level : Nat → Int32) (v1 : Int32) (r9 : Int32) (hf : p10_mainKey m_fam m_generation m_level v1 = some r9) : gM l dC dI cI cJ cZ yX10_mainKey cX10_mainKey 2 (some .int) (3) (66) [.ref (ad 0), .int v1] [(ad 0, .inr (10, oM ad m_undoCount m_thrown m_hasSnapshot a_m_fam m_rows m_lineLength m_formattedLength m_bufferLength m_limit m_next m_beginsAt m_token m_error m_errorAt m_errorPosition m_nested m_codeCount)), (a_m_fam, .inl (cJ, 130, .inr (.inl m_fam))), ((ad 9), .inl (cI, 16, .inl m_generation)), ((ad 10), .inl (cI, 12, .inl m_level))] [(ad 0, .inr (10, oM ad m_undoCount m_thrown m_hasSnapshot a_m_fam m_rows m_lineLength m_formattedLength m_bufferLength m_limit m_next m_beginsAt m_token m_error m_errorAt m_errorPosition m_nested m_codeCount)), (a_m_fam, .inl (cJ, 130, .inr (.inl m_fam))), ((ad 9), .inl (cI, 16, .inl m_generation)), ((ad 10), .inl (cI, 12, .inl m_level))] (some (.int r9)) := by
  refine g_start (own := RX10) (by decide +kernel) rfl (Nat.le_of_ble_eq_true rfl) ?_
  intro p e s m below meth c A ls S hr hlocks hE hP hD hS hA hl hin
  have hx := S.1
  have hb := S.2.1
  have hml := S.2.2.1
  have hown := S.2.2.2.1
  have htg : ∀ z ∈ gw, z.before ([.ref (ad 0), .int v1] : List Value).toArray s = true := fun w h => S.2.2.2.2 w (List.mem_cons_of_mem _ h)
  have hl : lv_has ls 2 [(0, .ref (ad 0)), (1, .int v1)] := hl
  have hS0 := hS
  obtain ⟨H, hH⟩ : ∃ H, H = s.heap := ⟨_, rfl⟩
  obtain ⟨locs, hlc⟩ : ∃ locs : List Loc, locs = [] := ⟨_, rfl⟩
  have hS : va_S A s.heap H locs := by rw [hH, hlc]; exact hS0
  have hP : va_P (dC, dI) vwCl [(ad 0, .inr (10, oM ad m_undoCount m_thrown m_hasSnapshot a_m_fam m_rows m_lineLength m_formattedLength m_bufferLength m_limit m_next m_beginsAt m_token m_error m_errorAt m_errorPosition m_nested m_codeCount)), (a_m_fam, .inl (cJ, 130, .inr (.inl m_fam))), ((ad 9), .inl (cI, 16, .inl m_generation)), ((ad 10), .inl (cI, 12, .inl m_level))] H := by rw [hH]; exact hP
  suffices hgo : W p l e ({ frames := 3, cells := 0, slots := 0, locals := 66 }) s m ([.ref (ad 0), .int v1] : List Value).toArray below meth c H locs 0 0 (MQ below (gQ dC dI (some (.int r9)) A [(ad 0, .inr (10, oM ad m_undoCount m_thrown m_hasSnapshot a_m_fam m_rows m_lineLength m_formattedLength m_bufferLength m_limit m_next m_beginsAt m_token m_error m_errorAt m_errorPosition m_nested m_codeCount)), (a_m_fam, .inl (cJ, 130, .inr (.inl m_fam))), ((ad 9), .inl (cI, 16, .inl m_generation)), ((ad 10), .inl (cI, 12, .inl m_level))]) ([.ref (ad 0), .int v1] : List Value).toArray s 0 0 A) (F0 m 0 ls []) by rw [hH, hlc] at hgo; exact hgo
  rw [p10_mainKey] at hf
  refine lv_aload_n hx hb dX10_mainKey_0 rfl (lv_at hl 0 rfl) ?_
  refine lv_iload_n hx hb dX10_mainKey_1 rfl (lv_at hl 1 rfl) ?_
  obtain ⟨r2, h9, hf⟩ := ob_s hf
  refine gcV (index := 117) S hE (c_X10_parentsOf ad a_m_fam m_undoCount m_thrown m_hasSnapshot m_rows m_lineLength m_formattedLength m_bufferLength m_limit m_next m_beginsAt m_token m_error m_errorAt m_errorPosition m_nested m_codeCount m_fam v1 r2 h9) mX10_parentsOf tw1515 ⟨Nat.le_of_ble_eq_true rfl, Nat.le_of_ble_eq_true rfl⟩ hP hD hS hA ⟨Nat.zero_le _, Nat.zero_le _⟩ 0 10 rfl rfl rfl (wr := [((ad 9), .inl (cI, 16, .inl m_generation)), ((ad 10), .inl (cI, 12, .inl m_level))]) [0, 1] [2, 3] rfl rfl rfl rfl (by decide) (As := [.int v1]) (rest := []) rfl hl.1 rfl (Nat.le_of_ble_eq_true rfl) dX10_mainKey_2 (fun H locs hP hD hS => ?_)
  refine W.eq (g2 := F0 m 5 ls [.int r2]) rfl ?_
  have hP : va_P (dC, dI) vwCl [((ad 9), .inl (cI, 16, .inl m_generation)), ((ad 10), .inl (cI, 12, .inl m_level)), (ad 0, .inr (10, oM ad m_undoCount m_thrown m_hasSnapshot a_m_fam m_rows m_lineLength m_formattedLength m_bufferLength m_limit m_next m_beginsAt m_token m_error m_errorAt m_errorPosition m_nested m_codeCount)), (a_m_fam, .inl (cJ, 130, .inr (.inl m_fam)))] H := hP
  have hD : va_D A [((ad 9), .inl (cI, 16, .inl m_generation)), ((ad 10), .inl (cI, 12, .inl m_level)), (ad 0, .inr (10, oM ad m_undoCount m_thrown m_hasSnapshot a_m_fam m_rows m_lineLength m_formattedLength m_bufferLength m_limit m_next m_beginsAt m_token m_error m_errorAt m_errorPosition m_nested m_codeCount)), (a_m_fam, .inl (cJ, 130, .inr (.inl m_fam)))] := hD
  refine lv_iconst (v := -1) hx hb dX10_mainKey_5 (by decide) ?_
  refine lv_icmp_ne (tgt := 15) hx hb dX10_mainKey_6 (by decide) (fun h9 => ?_) (fun h9 => ?_)
  · have hf := itf h9 hf
    refine lv_aload_n hx hb dX10_mainKey_15 rfl (lv_at hl 0 rfl) ?_
    refine lv_aload_n hx hb dX10_mainKey_16 rfl (lv_at hl 0 rfl) ?_
    refine lv_iload_n hx hb dX10_mainKey_17 rfl (lv_at hl 1 rfl) ?_
    obtain ⟨r18, h9, hf⟩ := ob_s hf
    refine gcV (index := 117) S hE (c_X10_parentsOf ad a_m_fam m_undoCount m_thrown m_hasSnapshot m_rows m_lineLength m_formattedLength m_bufferLength m_limit m_next m_beginsAt m_token m_error m_errorAt m_errorPosition m_nested m_codeCount m_fam v1 r18 h9) mX10_parentsOf tw1515 ⟨Nat.le_of_ble_eq_true rfl, Nat.le_of_ble_eq_true rfl⟩ hP hD hS hA ⟨Nat.zero_le _, Nat.zero_le _⟩ 2 10 rfl rfl rfl (wr := [((ad 9), .inl (cI, 16, .inl m_generation)), ((ad 10), .inl (cI, 12, .inl m_level))]) [2, 3] [0, 1] rfl rfl rfl rfl (by decide) (As := [.int v1]) (rest := [.ref (ad 0)]) rfl hl.1 rfl (Nat.le_of_ble_eq_true rfl) dX10_mainKey_18 (fun H locs hP hD hS => ?_)
    refine W.eq (g2 := F0 m 21 ls [.int r18, .ref (ad 0)]) rfl ?_
    have hP : va_P (dC, dI) vwCl [((ad 9), .inl (cI, 16, .inl m_generation)), ((ad 10), .inl (cI, 12, .inl m_level)), (ad 0, .inr (10, oM ad m_undoCount m_thrown m_hasSnapshot a_m_fam m_rows m_lineLength m_formattedLength m_bufferLength m_limit m_next m_beginsAt m_token m_error m_errorAt m_errorPosition m_nested m_codeCount)), (a_m_fam, .inl (cJ, 130, .inr (.inl m_fam)))] H := hP
    have hD : va_D A [((ad 9), .inl (cI, 16, .inl m_generation)), ((ad 10), .inl (cI, 12, .inl m_level)), (ad 0, .inr (10, oM ad m_undoCount m_thrown m_hasSnapshot a_m_fam m_rows m_lineLength m_formattedLength m_bufferLength m_limit m_next m_beginsAt m_token m_error m_errorAt m_errorPosition m_nested m_codeCount)), (a_m_fam, .inl (cJ, 130, .inr (.inl m_fam)))] := hD
    obtain ⟨r21, h9, hf⟩ := ob_s hf
    refine gcV (index := 169) S hE (c_X10_middle ad a_m_fam m_undoCount m_thrown m_hasSnapshot m_rows m_lineLength m_formattedLength m_bufferLength m_limit m_next m_beginsAt m_token m_error m_errorAt m_errorPosition m_nested m_codeCount m_fam m_generation m_level r18 r21 h9) mX10_middle tw1636 ⟨Nat.le_of_ble_eq_true rfl, Nat.le_of_ble_eq_true rfl⟩ hP hD hS hA ⟨Nat.zero_le _, Nat.zero_le _⟩ 2 10 rfl rfl rfl (wr := []) [2, 3, 0, 1] [] rfl rfl rfl rfl (by decide) (As := [.int r18]) (rest := []) rfl hl.1 rfl (Nat.le_of_ble_eq_true rfl) dX10_mainKey_21 (fun H locs hP hD hS => ?_)
    refine W.eq (g2 := F0 m 24 ls [.int r21]) rfl ?_
    have hP : va_P (dC, dI) vwCl [(ad 0, .inr (10, oM ad m_undoCount m_thrown m_hasSnapshot a_m_fam m_rows m_lineLength m_formattedLength m_bufferLength m_limit m_next m_beginsAt m_token m_error m_errorAt m_errorPosition m_nested m_codeCount)), (a_m_fam, .inl (cJ, 130, .inr (.inl m_fam))), ((ad 9), .inl (cI, 16, .inl m_generation)), ((ad 10), .inl (cI, 12, .inl m_level))] H := hP
    have hD : va_D A [(ad 0, .inr (10, oM ad m_undoCount m_thrown m_hasSnapshot a_m_fam m_rows m_lineLength m_formattedLength m_bufferLength m_limit m_next m_beginsAt m_token m_error m_errorAt m_errorPosition m_nested m_codeCount)), (a_m_fam, .inl (cJ, 130, .inr (.inl m_fam))), ((ad 9), .inl (cI, 16, .inl m_generation)), ((ad 10), .inl (cI, 12, .inl m_level))] := hD
    cases hf
    exact g_iret S hr hlocks hP hD hS dX10_mainKey_24
  · have hf := itt h9 hf
    refine lv_sipush (v := 1000) hx hb dX10_mainKey_9 (by decide) ?_
    refine lv_goto (tgt := 24) hx hb dX10_mainKey_12 (by decide) ?_
    cases hf
    exact g_iret S hr hlocks (hP.sub [2, 3, 0, 1] rfl) (hD.sub [2, 3, 0, 1] (by decide) rfl) hS dX10_mainKey_24
set_option maxHeartbeats 4000000 in
set_option maxRecDepth 100000 in
theorem c_X10_keyOf (ad : Nat → Nat) (a_m_fam : Nat) (m_undoCount : Int32) (m_thrown : Int32) (m_hasSnapshot : Bool) (m_rows : Int32) (m_lineLength : Int32) (m_formattedLength : Int32) (m_bufferLength : Int32) (m_limit : Int32) (m_next : Int32) (m_beginsAt : Int32) (m_token : Int32) (m_error : Int32) (m_errorAt : Int32) (m_errorPosition : Int32) (m_nested : Int32) (m_codeCount : Int32) (m_fam : Nat → Int64) (m_generation : Nat → Int32) (m_level : Nat → Int32) (v1 : Int32) (r9 : Int32) (hf : p10_keyOf m_fam m_generation m_level v1 = some r9) : gM l dC dI cI cJ cZ yX10_keyOf cX10_keyOf 4 (some .int) (4) (87) [.ref (ad 0), .int v1] [(ad 0, .inr (10, oM ad m_undoCount m_thrown m_hasSnapshot a_m_fam m_rows m_lineLength m_formattedLength m_bufferLength m_limit m_next m_beginsAt m_token m_error m_errorAt m_errorPosition m_nested m_codeCount)), (a_m_fam, .inl (cJ, 130, .inr (.inl m_fam))), ((ad 9), .inl (cI, 16, .inl m_generation)), ((ad 10), .inl (cI, 12, .inl m_level))] [(ad 0, .inr (10, oM ad m_undoCount m_thrown m_hasSnapshot a_m_fam m_rows m_lineLength m_formattedLength m_bufferLength m_limit m_next m_beginsAt m_token m_error m_errorAt m_errorPosition m_nested m_codeCount)), (a_m_fam, .inl (cJ, 130, .inr (.inl m_fam))), ((ad 9), .inl (cI, 16, .inl m_generation)), ((ad 10), .inl (cI, 12, .inl m_level))] (some (.int r9)) := by
  refine g_start (own := RX10) (by decide +kernel) rfl (Nat.le_of_ble_eq_true rfl) ?_
  intro p e s m below meth c A ls S hr hlocks hE hP hD hS hA hl hin
  have hx := S.1
  have hb := S.2.1
  have hml := S.2.2.1
  have hown := S.2.2.2.1
  have htg : ∀ z ∈ gw, z.before ([.ref (ad 0), .int v1] : List Value).toArray s = true := fun w h => S.2.2.2.2 w (List.mem_cons_of_mem _ h)
  have hl : lv_has ls 4 [(0, .ref (ad 0)), (1, .int v1)] := hl
  have hS0 := hS
  obtain ⟨H, hH⟩ : ∃ H, H = s.heap := ⟨_, rfl⟩
  obtain ⟨locs, hlc⟩ : ∃ locs : List Loc, locs = [] := ⟨_, rfl⟩
  have hS : va_S A s.heap H locs := by rw [hH, hlc]; exact hS0
  have hP : va_P (dC, dI) vwCl [(ad 0, .inr (10, oM ad m_undoCount m_thrown m_hasSnapshot a_m_fam m_rows m_lineLength m_formattedLength m_bufferLength m_limit m_next m_beginsAt m_token m_error m_errorAt m_errorPosition m_nested m_codeCount)), (a_m_fam, .inl (cJ, 130, .inr (.inl m_fam))), ((ad 9), .inl (cI, 16, .inl m_generation)), ((ad 10), .inl (cI, 12, .inl m_level))] H := by rw [hH]; exact hP
  suffices hgo : W p l e ({ frames := 4, cells := 0, slots := 0, locals := 87 }) s m ([.ref (ad 0), .int v1] : List Value).toArray below meth c H locs 0 0 (MQ below (gQ dC dI (some (.int r9)) A [(ad 0, .inr (10, oM ad m_undoCount m_thrown m_hasSnapshot a_m_fam m_rows m_lineLength m_formattedLength m_bufferLength m_limit m_next m_beginsAt m_token m_error m_errorAt m_errorPosition m_nested m_codeCount)), (a_m_fam, .inl (cJ, 130, .inr (.inl m_fam))), ((ad 9), .inl (cI, 16, .inl m_generation)), ((ad 10), .inl (cI, 12, .inl m_level))]) ([.ref (ad 0), .int v1] : List Value).toArray s 0 0 A) (F0 m 0 ls []) by rw [hH, hlc] at hgo; exact hgo
  rw [p10_keyOf] at hf
  have J47 : ∀ (v3_47 : Int32) (H : Heap) (locs : List Loc) (ls : Array Slot), p10_keyOf_J47 m_fam m_generation m_level v3_47 = some r9 → va_P (dC, dI) vwCl [(ad 0, .inr (10, oM ad m_undoCount m_thrown m_hasSnapshot a_m_fam m_rows m_lineLength m_formattedLength m_bufferLength m_limit m_next m_beginsAt m_token m_error m_errorAt m_errorPosition m_nested m_codeCount)), (a_m_fam, .inl (cJ, 130, .inr (.inl m_fam))), ((ad 9), .inl (cI, 16, .inl m_generation)), ((ad 10), .inl (cI, 12, .inl m_level))] H → va_D A [(ad 0, .inr (10, oM ad m_undoCount m_thrown m_hasSnapshot a_m_fam m_rows m_lineLength m_formattedLength m_bufferLength m_limit m_next m_beginsAt m_token m_error m_errorAt m_errorPosition m_nested m_codeCount)), (a_m_fam, .inl (cJ, 130, .inr (.inl m_fam))), ((ad 9), .inl (cI, 16, .inl m_generation)), ((ad 10), .inl (cI, 12, .inl m_level))] → va_S A s.heap H locs → lv_has ls 4 [(0, .ref (ad 0)), (3, .int v3_47)] → W p l e ({ frames := 4, cells := 0, slots := 0, locals := 87 }) s m ([.ref (ad 0), .int v1] : List Value).toArray below meth c H locs 0 0 (MQ below (gQ dC dI (some (.int r9)) A [(ad 0, .inr (10, oM ad m_undoCount m_thrown m_hasSnapshot a_m_fam m_rows m_lineLength m_formattedLength m_bufferLength m_limit m_next m_beginsAt m_token m_error m_errorAt m_errorPosition m_nested m_codeCount)), (a_m_fam, .inl (cJ, 130, .inr (.inl m_fam))), ((ad 9), .inl (cI, 16, .inl m_generation)), ((ad 10), .inl (cI, 12, .inl m_level))]) ([.ref (ad 0), .int v1] : List Value).toArray s 0 0 A) (F0 m 47 ls []) := by
    intro v3_47 H locs ls hf hP hD hS hl
    rw [p10_keyOf_J47] at hf
    refine lv_aload_n hx hb dX10_keyOf_47 rfl (lv_at hl 0 rfl) ?_
    refine lv_iload_n hx hb dX10_keyOf_48 rfl (lv_at hl 1 rfl) ?_
    obtain ⟨r49, h9, hf⟩ := ob_s hf
    refine gcV (index := 348) S hE (c_X10_mainKey ad a_m_fam m_undoCount m_thrown m_hasSnapshot m_rows m_lineLength m_formattedLength m_bufferLength m_limit m_next m_beginsAt m_token m_error m_errorAt m_errorPosition m_nested m_codeCount m_fam m_generation m_level v3_47 r49 h9) mX10_mainKey tw1898 ⟨Nat.le_of_ble_eq_true rfl, Nat.le_of_ble_eq_true rfl⟩ hP hD hS hA ⟨Nat.zero_le _, Nat.zero_le _⟩ 0 10 rfl rfl rfl (wr := []) [0, 1, 2, 3] [] rfl rfl rfl rfl (by decide) (As := [.int v3_47]) (rest := []) rfl hl.1 rfl (Nat.le_of_ble_eq_true rfl) dX10_keyOf_49 (fun H locs hP hD hS => ?_)
    refine W.eq (g2 := F0 m 52 ls [.int r49]) rfl ?_
    have hP : va_P (dC, dI) vwCl [(ad 0, .inr (10, oM ad m_undoCount m_thrown m_hasSnapshot a_m_fam m_rows m_lineLength m_formattedLength m_bufferLength m_limit m_next m_beginsAt m_token m_error m_errorAt m_errorPosition m_nested m_codeCount)), (a_m_fam, .inl (cJ, 130, .inr (.inl m_fam))), ((ad 9), .inl (cI, 16, .inl m_generation)), ((ad 10), .inl (cI, 12, .inl m_level))] H := hP
    have hD : va_D A [(ad 0, .inr (10, oM ad m_undoCount m_thrown m_hasSnapshot a_m_fam m_rows m_lineLength m_formattedLength m_bufferLength m_limit m_next m_beginsAt m_token m_error m_errorAt m_errorPosition m_nested m_codeCount)), (a_m_fam, .inl (cJ, 130, .inr (.inl m_fam))), ((ad 9), .inl (cI, 16, .inl m_generation)), ((ad 10), .inl (cI, 12, .inl m_level))] := hD
    cases hf
    exact g_iret S hr hlocks hP hD hS dX10_keyOf_52
  refine lv_iload_n hx hb dX10_keyOf_0 rfl (lv_at hl 1 rfl) ?_
  refine lv_bipush (v := 16) hx hb dX10_keyOf_1 (by decide) ?_
  refine lv_icmp_ge (tgt := 12) hx hb dX10_keyOf_3 (by decide) (fun h9 => ?_) (fun h9 => ?_)
  · have hf := itt h9 hf
    refine lv_iload_n hx hb dX10_keyOf_12 rfl (lv_at hl 1 rfl) ?_
    refine lv_bipush (v := 16) hx hb dX10_keyOf_13 (by decide) ?_
    refine lv_isub hx hb dX10_keyOf_15 ?_
    refine lv_topi (fun t16 h9 => ?_)
    have hf := lb_e h9 hf
    refine lv_istore_n (lv' := [(2, .int t16), (0, .ref (ad 0)), (1, .int v1)]) hx hb dX10_keyOf_16 rfl hl (by decide) rfl (fun ls hl => ?_)
    refine lv_aload_n hx hb dX10_keyOf_17 rfl (lv_at hl 1 rfl) ?_
    refine lv_iload_n hx hb dX10_keyOf_18 rfl (lv_at hl 0 rfl) ?_
    refine lv_iconst (v := 0) hx hb dX10_keyOf_19 (by decide) ?_
    obtain ⟨r20, h9, hf⟩ := ob_s hf
    refine gcV (index := 102) S hE (c_X10_partner ad a_m_fam m_undoCount m_thrown m_hasSnapshot m_rows m_lineLength m_formattedLength m_bufferLength m_limit m_next m_beginsAt m_token m_error m_errorAt m_errorPosition m_nested m_codeCount m_fam t16 (0 : Int32) r20 h9) mX10_partner tw1527 ⟨Nat.le_of_ble_eq_true rfl, Nat.le_of_ble_eq_true rfl⟩ hP hD hS hA ⟨Nat.zero_le _, Nat.zero_le _⟩ 0 10 rfl rfl rfl (wr := [((ad 9), .inl (cI, 16, .inl m_generation)), ((ad 10), .inl (cI, 12, .inl m_level))]) [0, 1] [2, 3] rfl rfl rfl rfl (by decide) (As := [.int t16, .int (0 : Int32)]) (rest := []) rfl hl.1 rfl (Nat.le_of_ble_eq_true rfl) dX10_keyOf_20 (fun H locs hP hD hS => ?_)
    refine W.eq (g2 := F0 m 23 ls [.int r20]) rfl ?_
    have hP : va_P (dC, dI) vwCl [((ad 9), .inl (cI, 16, .inl m_generation)), ((ad 10), .inl (cI, 12, .inl m_level)), (ad 0, .inr (10, oM ad m_undoCount m_thrown m_hasSnapshot a_m_fam m_rows m_lineLength m_formattedLength m_bufferLength m_limit m_next m_beginsAt m_token m_error m_errorAt m_errorPosition m_nested m_codeCount)), (a_m_fam, .inl (cJ, 130, .inr (.inl m_fam)))] H := hP
    have hD : va_D A [((ad 9), .inl (cI, 16, .inl m_generation)), ((ad 10), .inl (cI, 12, .inl m_level)), (ad 0, .inr (10, oM ad m_undoCount m_thrown m_hasSnapshot a_m_fam m_rows m_lineLength m_formattedLength m_bufferLength m_limit m_next m_beginsAt m_token m_error m_errorAt m_errorPosition m_nested m_codeCount)), (a_m_fam, .inl (cJ, 130, .inr (.inl m_fam)))] := hD
    refine lv_aload_n hx hb dX10_keyOf_23 rfl (lv_at hl 1 rfl) ?_
    refine lv_iload_n hx hb dX10_keyOf_24 rfl (lv_at hl 0 rfl) ?_
    obtain ⟨r25, h9, hf⟩ := ob_s hf
    refine gcV (index := 135) S hE (c_X10_referred ad a_m_fam m_undoCount m_thrown m_hasSnapshot m_rows m_lineLength m_formattedLength m_bufferLength m_limit m_next m_beginsAt m_token m_error m_errorAt m_errorPosition m_nested m_codeCount m_fam m_generation m_level t16 r25 h9) mX10_referred tw1540 ⟨Nat.le_of_ble_eq_true rfl, Nat.le_of_ble_eq_true rfl⟩ hP hD hS hA ⟨Nat.zero_le _, Nat.zero_le _⟩ 2 10 rfl rfl rfl (wr := []) [2, 3, 0, 1] [] rfl rfl rfl rfl (by decide) (As := [.int t16]) (rest := [.int r20]) rfl hl.1 rfl (Nat.le_of_ble_eq_true rfl) dX10_keyOf_25 (fun H locs hP hD hS => ?_)
    refine W.eq (g2 := F0 m 28 ls [.int r25, .int r20]) rfl ?_
    have hP : va_P (dC, dI) vwCl [(ad 0, .inr (10, oM ad m_undoCount m_thrown m_hasSnapshot a_m_fam m_rows m_lineLength m_formattedLength m_bufferLength m_limit m_next m_beginsAt m_token m_error m_errorAt m_errorPosition m_nested m_codeCount)), (a_m_fam, .inl (cJ, 130, .inr (.inl m_fam))), ((ad 9), .inl (cI, 16, .inl m_generation)), ((ad 10), .inl (cI, 12, .inl m_level))] H := hP
    have hD : va_D A [(ad 0, .inr (10, oM ad m_undoCount m_thrown m_hasSnapshot a_m_fam m_rows m_lineLength m_formattedLength m_bufferLength m_limit m_next m_beginsAt m_token m_error m_errorAt m_errorPosition m_nested m_codeCount)), (a_m_fam, .inl (cJ, 130, .inr (.inl m_fam))), ((ad 9), .inl (cI, 16, .inl m_generation)), ((ad 10), .inl (cI, 12, .inl m_level))] := hD
    refine lv_icmp_ne (tgt := 40) hx hb dX10_keyOf_28 (by decide) (fun h9 => ?_) (fun h9 => ?_)
    · have hf := itf h9 hf
      refine lv_aload_n hx hb dX10_keyOf_40 rfl (lv_at hl 1 rfl) ?_
      refine lv_iload_n hx hb dX10_keyOf_41 rfl (lv_at hl 0 rfl) ?_
      refine lv_iconst (v := 0) hx hb dX10_keyOf_42 (by decide) ?_
      obtain ⟨r43, h9, hf⟩ := ob_s hf
      refine gcV (index := 102) S hE (c_X10_partner ad a_m_fam m_undoCount m_thrown m_hasSnapshot m_rows m_lineLength m_formattedLength m_bufferLength m_limit m_next m_beginsAt m_token m_error m_errorAt m_errorPosition m_nested m_codeCount m_fam t16 (0 : Int32) r43 h9) mX10_partner tw1527 ⟨Nat.le_of_ble_eq_true rfl, Nat.le_of_ble_eq_true rfl⟩ hP hD hS hA ⟨Nat.zero_le _, Nat.zero_le _⟩ 0 10 rfl rfl rfl (wr := [((ad 9), .inl (cI, 16, .inl m_generation)), ((ad 10), .inl (cI, 12, .inl m_level))]) [0, 1] [2, 3] rfl rfl rfl rfl (by decide) (As := [.int t16, .int (0 : Int32)]) (rest := []) rfl hl.1 rfl (Nat.le_of_ble_eq_true rfl) dX10_keyOf_43 (fun H locs hP hD hS => ?_)
      refine W.eq (g2 := F0 m 46 ls [.int r43]) rfl ?_
      have hP : va_P (dC, dI) vwCl [((ad 9), .inl (cI, 16, .inl m_generation)), ((ad 10), .inl (cI, 12, .inl m_level)), (ad 0, .inr (10, oM ad m_undoCount m_thrown m_hasSnapshot a_m_fam m_rows m_lineLength m_formattedLength m_bufferLength m_limit m_next m_beginsAt m_token m_error m_errorAt m_errorPosition m_nested m_codeCount)), (a_m_fam, .inl (cJ, 130, .inr (.inl m_fam)))] H := hP
      have hD : va_D A [((ad 9), .inl (cI, 16, .inl m_generation)), ((ad 10), .inl (cI, 12, .inl m_level)), (ad 0, .inr (10, oM ad m_undoCount m_thrown m_hasSnapshot a_m_fam m_rows m_lineLength m_formattedLength m_bufferLength m_limit m_next m_beginsAt m_token m_error m_errorAt m_errorPosition m_nested m_codeCount)), (a_m_fam, .inl (cJ, 130, .inr (.inl m_fam)))] := hD
      refine lv_istore_n (lv' := [(3, .int r43), (2, .int t16), (0, .ref (ad 0)), (1, .int v1)]) hx hb dX10_keyOf_46 rfl hl (by decide) rfl (fun ls hl => ?_)
      exact J47 r43 H locs ls hf (hP.sub [2, 3, 0, 1] rfl) (hD.sub [2, 3, 0, 1] (by decide) rfl) hS (lv_sub hl [2, 0] rfl)
    · have hf := itt h9 hf
      refine lv_aload_n hx hb dX10_keyOf_31 rfl (lv_at hl 1 rfl) ?_
      refine lv_iload_n hx hb dX10_keyOf_32 rfl (lv_at hl 0 rfl) ?_
      refine lv_iconst (v := 1) hx hb dX10_keyOf_33 (by decide) ?_
      obtain ⟨r34, h9, hf⟩ := ob_s hf
      refine gcV (index := 102) S hE (c_X10_partner ad a_m_fam m_undoCount m_thrown m_hasSnapshot m_rows m_lineLength m_formattedLength m_bufferLength m_limit m_next m_beginsAt m_token m_error m_errorAt m_errorPosition m_nested m_codeCount m_fam t16 (1 : Int32) r34 h9) mX10_partner tw1527 ⟨Nat.le_of_ble_eq_true rfl, Nat.le_of_ble_eq_true rfl⟩ hP hD hS hA ⟨Nat.zero_le _, Nat.zero_le _⟩ 0 10 rfl rfl rfl (wr := [((ad 9), .inl (cI, 16, .inl m_generation)), ((ad 10), .inl (cI, 12, .inl m_level))]) [0, 1] [2, 3] rfl rfl rfl rfl (by decide) (As := [.int t16, .int (1 : Int32)]) (rest := []) rfl hl.1 rfl (Nat.le_of_ble_eq_true rfl) dX10_keyOf_34 (fun H locs hP hD hS => ?_)
      refine W.eq (g2 := F0 m 37 ls [.int r34]) rfl ?_
      have hP : va_P (dC, dI) vwCl [((ad 9), .inl (cI, 16, .inl m_generation)), ((ad 10), .inl (cI, 12, .inl m_level)), (ad 0, .inr (10, oM ad m_undoCount m_thrown m_hasSnapshot a_m_fam m_rows m_lineLength m_formattedLength m_bufferLength m_limit m_next m_beginsAt m_token m_error m_errorAt m_errorPosition m_nested m_codeCount)), (a_m_fam, .inl (cJ, 130, .inr (.inl m_fam)))] H := hP
      have hD : va_D A [((ad 9), .inl (cI, 16, .inl m_generation)), ((ad 10), .inl (cI, 12, .inl m_level)), (ad 0, .inr (10, oM ad m_undoCount m_thrown m_hasSnapshot a_m_fam m_rows m_lineLength m_formattedLength m_bufferLength m_limit m_next m_beginsAt m_token m_error m_errorAt m_errorPosition m_nested m_codeCount)), (a_m_fam, .inl (cJ, 130, .inr (.inl m_fam)))] := hD
      refine lv_goto (tgt := 46) hx hb dX10_keyOf_37 (by decide) ?_
      refine lv_istore_n (lv' := [(3, .int r34), (2, .int t16), (0, .ref (ad 0)), (1, .int v1)]) hx hb dX10_keyOf_46 rfl hl (by decide) rfl (fun ls hl => ?_)
      exact J47 r34 H locs ls hf (hP.sub [2, 3, 0, 1] rfl) (hD.sub [2, 3, 0, 1] (by decide) rfl) hS (lv_sub hl [2, 0] rfl)
  · have hf := itf h9 hf
    refine lv_aload_n hx hb dX10_keyOf_6 rfl (lv_at hl 0 rfl) ?_
    refine lv_iload_n hx hb dX10_keyOf_7 rfl (lv_at hl 1 rfl) ?_
    obtain ⟨r8, h9, hf⟩ := ob_s hf
    refine gcV (index := 348) S hE (c_X10_mainKey ad a_m_fam m_undoCount m_thrown m_hasSnapshot m_rows m_lineLength m_formattedLength m_bufferLength m_limit m_next m_beginsAt m_token m_error m_errorAt m_errorPosition m_nested m_codeCount m_fam m_generation m_level v1 r8 h9) mX10_mainKey tw1898 ⟨Nat.le_of_ble_eq_true rfl, Nat.le_of_ble_eq_true rfl⟩ hP hD hS hA ⟨Nat.zero_le _, Nat.zero_le _⟩ 0 10 rfl rfl rfl (wr := []) [0, 1, 2, 3] [] rfl rfl rfl rfl (by decide) (As := [.int v1]) (rest := []) rfl hl.1 rfl (Nat.le_of_ble_eq_true rfl) dX10_keyOf_8 (fun H locs hP hD hS => ?_)
    refine W.eq (g2 := F0 m 11 ls [.int r8]) rfl ?_
    have hP : va_P (dC, dI) vwCl [(ad 0, .inr (10, oM ad m_undoCount m_thrown m_hasSnapshot a_m_fam m_rows m_lineLength m_formattedLength m_bufferLength m_limit m_next m_beginsAt m_token m_error m_errorAt m_errorPosition m_nested m_codeCount)), (a_m_fam, .inl (cJ, 130, .inr (.inl m_fam))), ((ad 9), .inl (cI, 16, .inl m_generation)), ((ad 10), .inl (cI, 12, .inl m_level))] H := hP
    have hD : va_D A [(ad 0, .inr (10, oM ad m_undoCount m_thrown m_hasSnapshot a_m_fam m_rows m_lineLength m_formattedLength m_bufferLength m_limit m_next m_beginsAt m_token m_error m_errorAt m_errorPosition m_nested m_codeCount)), (a_m_fam, .inl (cJ, 130, .inr (.inl m_fam))), ((ad 9), .inl (cI, 16, .inl m_generation)), ((ad 10), .inl (cI, 12, .inl m_level))] := hD
    cases hf
    exact g_iret S hr hlocks hP hD hS dX10_keyOf_11
set_option maxHeartbeats 4000000 in
set_option maxRecDepth 100000 in
theorem c_X10_copy (a_p0 a_p2 : Nat) (p0 : Nat → Int64) (p2 : Nat → Int64) (n_p0 : Nat) (hn_p0 : n_p0 < 2147483648) (n_p2 : Nat) (hn_p2 : n_p2 < 2147483648) (v1 : Int32) (v3 : Int32) (p2_9 : Nat → Int64) (hf : p10_copy n_p0 n_p2 p0 p2 v1 v3 = some p2_9) : gM l dC dI cI cJ cZ yX10_copy cX10_copy 5 none (0) (0) [.ref a_p0, .int v1, .ref a_p2, .int v3] [(a_p0, .inl (cJ, n_p0, .inr (.inl p0))), (a_p2, .inl (cJ, n_p2, .inr (.inl p2)))] [(a_p0, .inl (cJ, n_p0, .inr (.inl p0))), (a_p2, .inl (cJ, n_p2, .inr (.inl p2_9)))] none := by
  refine g_start (own := RX10) (by decide +kernel) rfl (Nat.le_of_ble_eq_true rfl) ?_
  intro p e s m below meth c A ls S hr hlocks hE hP hD hS hA hl hin
  have hx := S.1
  have hb := S.2.1
  have hml := S.2.2.1
  have hown := S.2.2.2.1
  have htg : ∀ z ∈ gw, z.before ([.ref a_p0, .int v1, .ref a_p2, .int v3] : List Value).toArray s = true := fun w h => S.2.2.2.2 w (List.mem_cons_of_mem _ h)
  have hl : lv_has ls 5 [(0, .ref a_p0), (1, .int v1), (2, .ref a_p2), (3, .int v3)] := hl
  have hS0 := hS
  obtain ⟨H, hH⟩ : ∃ H, H = s.heap := ⟨_, rfl⟩
  obtain ⟨locs, hlc⟩ : ∃ locs : List Loc, locs = [] := ⟨_, rfl⟩
  have hS : va_S A s.heap H locs := by rw [hH, hlc]; exact hS0
  have hP : va_P (dC, dI) vwCl [(a_p0, .inl (cJ, n_p0, .inr (.inl p0))), (a_p2, .inl (cJ, n_p2, .inr (.inl p2)))] H := by rw [hH]; exact hP
  suffices hgo : W p l e ({ frames := 0, cells := 0, slots := 0, locals := 0 }) s m ([.ref a_p0, .int v1, .ref a_p2, .int v3] : List Value).toArray below meth c H locs 0 0 (MQ below (gQ dC dI none A [(a_p0, .inl (cJ, n_p0, .inr (.inl p0))), (a_p2, .inl (cJ, n_p2, .inr (.inl p2_9)))]) ([.ref a_p0, .int v1, .ref a_p2, .int v3] : List Value).toArray s 0 0 A) (F0 m 0 ls []) by rw [hH, hlc] at hgo; exact hgo
  rw [p10_copy] at hf
  have J37 : ∀ (p2_37 : Nat → Int64) (H : Heap) (locs : List Loc) (ls : Array Slot), p10_copy_J37 p2_37 = some p2_9 → va_P (dC, dI) vwCl [(a_p0, .inl (cJ, n_p0, .inr (.inl p0))), (a_p2, .inl (cJ, n_p2, .inr (.inl p2_37)))] H → va_D A [(a_p0, .inl (cJ, n_p0, .inr (.inl p0))), (a_p2, .inl (cJ, n_p2, .inr (.inl p2_37)))] → va_S A s.heap H locs → lv_has ls 5 [] → W p l e ({ frames := 0, cells := 0, slots := 0, locals := 0 }) s m ([.ref a_p0, .int v1, .ref a_p2, .int v3] : List Value).toArray below meth c H locs 0 0 (MQ below (gQ dC dI none A [(a_p0, .inl (cJ, n_p0, .inr (.inl p0))), (a_p2, .inl (cJ, n_p2, .inr (.inl p2_9)))]) ([.ref a_p0, .int v1, .ref a_p2, .int v3] : List Value).toArray s 0 0 A) (F0 m 37 ls []) := by
    intro p2_37 H locs ls hf hP hD hS hl
    rw [p10_copy_J37] at hf
    cases hf
    exact g_vret S hr hlocks hP hD hS dX10_copy_37
  refine lv_iconst (v := 0) hx hb dX10_copy_0 (by decide) ?_
  refine lv_istore (lv' := [(4, .int (0 : Int32)), (0, .ref a_p0), (1, .int v1), (2, .ref a_p2), (3, .int v3)]) hx hb dX10_copy_1 hl (by decide) rfl (fun ls hl => ?_)
  have K3 : ∀ (n3 : Nat) (v4_3 : Int32) (p2_3 : Nat → Int64) (ex3 : (Nat → Int64)) (H : Heap) (locs : List Loc) (ls : Array Slot), p10_copy_L3 n_p0 n_p2 p0 v1 v3 n3 v4_3 p2_3 = some ex3 → (fun p2_x3 => p10_copy_J37 p2_x3) ex3 = some p2_9 → va_P (dC, dI) vwCl [(a_p0, .inl (cJ, n_p0, .inr (.inl p0))), (a_p2, .inl (cJ, n_p2, .inr (.inl p2_3)))] H → va_D A [(a_p0, .inl (cJ, n_p0, .inr (.inl p0))), (a_p2, .inl (cJ, n_p2, .inr (.inl p2_3)))] → va_S A s.heap H locs → lv_has ls 5 [(0, .ref a_p0), (1, .int v1), (2, .ref a_p2), (3, .int v3), (4, .int v4_3)] → W p l e ({ frames := 0, cells := 0, slots := 0, locals := 0 }) s m ([.ref a_p0, .int v1, .ref a_p2, .int v3] : List Value).toArray below meth c H locs 0 0 (MQ below (gQ dC dI none A [(a_p0, .inl (cJ, n_p0, .inr (.inl p0))), (a_p2, .inl (cJ, n_p2, .inr (.inl p2_9)))]) ([.ref a_p0, .int v1, .ref a_p2, .int v3] : List Value).toArray s 0 0 A) (F0 m 3 ls []) := by
    intro n3
    induction n3 with
    | zero => intro v4_3 p2_3 ex3 H locs ls hf; rw [p10_copy_L3] at hf; cases hf
    | succ n3 ih3 =>
      intro v4_3 p2_3 ex3 H locs ls hf hk3 hP hD hS hl
      rw [p10_copy_L3, p10_copy_L3_B] at hf
      refine lv_iload hx hb dX10_copy_3 (lv_at hl 4 rfl) ?_
      refine lv_sipush (v := 130) hx hb dX10_copy_5 (by decide) ?_
      refine lv_icmp_ge (tgt := 37) hx hb dX10_copy_8 (by decide) (fun h9 => ?_) (fun h9 => ?_)
      · have hf := itt h9 hf
        cases hf
        have hf := hk3
        exact J37 p2_3 H locs ls hf hP hD hS (lv_sub hl [] rfl)
      · have hf := itf h9 hf
        refine lv_aload_n hx hb dX10_copy_11 rfl (lv_at hl 2 rfl) ?_
        refine lv_sipush (v := 130) hx hb dX10_copy_12 (by decide) ?_
        refine lv_iload_n hx hb dX10_copy_15 rfl (lv_at hl 3 rfl) ?_
        refine lv_imul hx hb dX10_copy_16 ?_
        refine lv_iload hx hb dX10_copy_17 (lv_at hl 4 rfl) ?_
        refine lv_iadd hx hb dX10_copy_19 ?_
        refine lv_aload_n hx hb dX10_copy_20 rfl (lv_at hl 0 rfl) ?_
        refine lv_sipush (v := 130) hx hb dX10_copy_21 (by decide) ?_
        refine lv_iload_n hx hb dX10_copy_24 rfl (lv_at hl 1 rfl) ?_
        refine lv_imul hx hb dX10_copy_25 ?_
        refine lv_iload hx hb dX10_copy_26 (lv_at hl 4 rfl) ?_
        refine lv_iadd hx hb dX10_copy_28 ?_
        obtain ⟨h9, hf⟩ := gd_s hf
        refine va_lald hx hb hE.1 hP 0 1 rfl rfl h9 dX10_copy_29 ?_
        obtain ⟨h9, hf⟩ := gd_s hf
        refine va_last hx hb hE.1 hP hD hS 1 1 rfl rfl h9 dX10_copy_30 (fun H locs hP hD hS => ?_)
        obtain ⟨g30, h9⟩ : ∃ z, z = (vp_updL p2_3 (((130 : Int32) * v3) + v4_3).toNatClampNeg (p0 (((130 : Int32) * v1) + v4_3).toNatClampNeg)) := ⟨_, rfl⟩
        have hf := lb_e h9 hf
        have hP : va_P (dC, dI) vwCl [(a_p0, .inl (cJ, n_p0, .inr (.inl p0))), (a_p2, .inl (cJ, n_p2, .inr (.inl g30)))] H := by rw [h9]; exact hP
        have hD : va_D A [(a_p0, .inl (cJ, n_p0, .inr (.inl p0))), (a_p2, .inl (cJ, n_p2, .inr (.inl g30)))] := by rw [h9]; exact hD
        obtain ⟨t31, h9⟩ : ∃ z : Int32, z = (v4_3 + (1 : Int32)) := ⟨_, rfl⟩
        have hf := lb_e h9 hf
        refine lv_iinc (v := t31) (lv' := [(4, .int t31), (0, .ref a_p0), (1, .int v1), (2, .ref a_p2), (3, .int v3)]) hx hb dX10_copy_31 hl (k := 4) rfl (by rw [h9]; rfl) (by decide) rfl (fun ls hl => ?_)
        refine lv_goto (tgt := 3) hx hb dX10_copy_34 (by decide) ?_
        exact ih3 t31 g30 ex3 H locs ls hf hk3 hP hD hS (lv_sub hl [1, 2, 3, 4, 0] rfl)
  obtain ⟨ex, h9, hf⟩ := ob_s hf
  exact K3 FU (0 : Int32) p2 ex H locs ls h9 hf hP hD hS (lv_sub hl [1, 2, 3, 4, 0] rfl)
set_option maxHeartbeats 4000000 in
set_option maxRecDepth 100000 in
theorem c_X10_copyS (a_p0 : Nat) (p0 : Nat → Int64) (n_p0 : Nat) (hn_p0 : n_p0 < 2147483648) (v1 : Int32) (v3 : Int32) (p0_9 : Nat → Int64) (hf : p10_copyS n_p0 p0 v1 v3 = some p0_9) : gM l dC dI cI cJ cZ yX10_copy cX10_copy 5 none (0) (0) [.ref a_p0, .int v1, .ref a_p0, .int v3] [(a_p0, .inl (cJ, n_p0, .inr (.inl p0)))] [(a_p0, .inl (cJ, n_p0, .inr (.inl p0_9)))] none := by
  refine g_start (own := RX10) (by decide +kernel) rfl (Nat.le_of_ble_eq_true rfl) ?_
  intro p e s m below meth c A ls S hr hlocks hE hP hD hS hA hl hin
  have hx := S.1
  have hb := S.2.1
  have hml := S.2.2.1
  have hown := S.2.2.2.1
  have htg : ∀ z ∈ gw, z.before ([.ref a_p0, .int v1, .ref a_p0, .int v3] : List Value).toArray s = true := fun w h => S.2.2.2.2 w (List.mem_cons_of_mem _ h)
  have hl : lv_has ls 5 [(0, .ref a_p0), (1, .int v1), (2, .ref a_p0), (3, .int v3)] := hl
  have hS0 := hS
  obtain ⟨H, hH⟩ : ∃ H, H = s.heap := ⟨_, rfl⟩
  obtain ⟨locs, hlc⟩ : ∃ locs : List Loc, locs = [] := ⟨_, rfl⟩
  have hS : va_S A s.heap H locs := by rw [hH, hlc]; exact hS0
  have hP : va_P (dC, dI) vwCl [(a_p0, .inl (cJ, n_p0, .inr (.inl p0)))] H := by rw [hH]; exact hP
  suffices hgo : W p l e ({ frames := 0, cells := 0, slots := 0, locals := 0 }) s m ([.ref a_p0, .int v1, .ref a_p0, .int v3] : List Value).toArray below meth c H locs 0 0 (MQ below (gQ dC dI none A [(a_p0, .inl (cJ, n_p0, .inr (.inl p0_9)))]) ([.ref a_p0, .int v1, .ref a_p0, .int v3] : List Value).toArray s 0 0 A) (F0 m 0 ls []) by rw [hH, hlc] at hgo; exact hgo
  rw [p10_copyS] at hf
  have J37 : ∀ (p0_37 : Nat → Int64) (H : Heap) (locs : List Loc) (ls : Array Slot), p10_copyS_J37 p0_37 = some p0_9 → va_P (dC, dI) vwCl [(a_p0, .inl (cJ, n_p0, .inr (.inl p0_37)))] H → va_D A [(a_p0, .inl (cJ, n_p0, .inr (.inl p0_37)))] → va_S A s.heap H locs → lv_has ls 5 [] → W p l e ({ frames := 0, cells := 0, slots := 0, locals := 0 }) s m ([.ref a_p0, .int v1, .ref a_p0, .int v3] : List Value).toArray below meth c H locs 0 0 (MQ below (gQ dC dI none A [(a_p0, .inl (cJ, n_p0, .inr (.inl p0_9)))]) ([.ref a_p0, .int v1, .ref a_p0, .int v3] : List Value).toArray s 0 0 A) (F0 m 37 ls []) := by
    intro p0_37 H locs ls hf hP hD hS hl
    rw [p10_copyS_J37] at hf
    cases hf
    exact g_vret S hr hlocks hP hD hS dX10_copy_37
  refine lv_iconst (v := 0) hx hb dX10_copy_0 (by decide) ?_
  refine lv_istore (lv' := [(4, .int (0 : Int32)), (0, .ref a_p0), (1, .int v1), (2, .ref a_p0), (3, .int v3)]) hx hb dX10_copy_1 hl (by decide) rfl (fun ls hl => ?_)
  have K3 : ∀ (n3 : Nat) (v4_3 : Int32) (p0_3 : Nat → Int64) (ex3 : (Nat → Int64)) (H : Heap) (locs : List Loc) (ls : Array Slot), p10_copyS_L3 n_p0 v1 v3 n3 v4_3 p0_3 = some ex3 → (fun p0_x3 => p10_copyS_J37 p0_x3) ex3 = some p0_9 → va_P (dC, dI) vwCl [(a_p0, .inl (cJ, n_p0, .inr (.inl p0_3)))] H → va_D A [(a_p0, .inl (cJ, n_p0, .inr (.inl p0_3)))] → va_S A s.heap H locs → lv_has ls 5 [(0, .ref a_p0), (1, .int v1), (2, .ref a_p0), (3, .int v3), (4, .int v4_3)] → W p l e ({ frames := 0, cells := 0, slots := 0, locals := 0 }) s m ([.ref a_p0, .int v1, .ref a_p0, .int v3] : List Value).toArray below meth c H locs 0 0 (MQ below (gQ dC dI none A [(a_p0, .inl (cJ, n_p0, .inr (.inl p0_9)))]) ([.ref a_p0, .int v1, .ref a_p0, .int v3] : List Value).toArray s 0 0 A) (F0 m 3 ls []) := by
    intro n3
    induction n3 with
    | zero => intro v4_3 p0_3 ex3 H locs ls hf; rw [p10_copyS_L3] at hf; cases hf
    | succ n3 ih3 =>
      intro v4_3 p0_3 ex3 H locs ls hf hk3 hP hD hS hl
      rw [p10_copyS_L3, p10_copyS_L3_B] at hf
      refine lv_iload hx hb dX10_copy_3 (lv_at hl 4 rfl) ?_
      refine lv_sipush (v := 130) hx hb dX10_copy_5 (by decide) ?_
      refine lv_icmp_ge (tgt := 37) hx hb dX10_copy_8 (by decide) (fun h9 => ?_) (fun h9 => ?_)
      · have hf := itt h9 hf
        cases hf
        have hf := hk3
        exact J37 p0_3 H locs ls hf hP hD hS (lv_sub hl [] rfl)
      · have hf := itf h9 hf
        refine lv_aload_n hx hb dX10_copy_11 rfl (lv_at hl 2 rfl) ?_
        refine lv_sipush (v := 130) hx hb dX10_copy_12 (by decide) ?_
        refine lv_iload_n hx hb dX10_copy_15 rfl (lv_at hl 3 rfl) ?_
        refine lv_imul hx hb dX10_copy_16 ?_
        refine lv_iload hx hb dX10_copy_17 (lv_at hl 4 rfl) ?_
        refine lv_iadd hx hb dX10_copy_19 ?_
        refine lv_aload_n hx hb dX10_copy_20 rfl (lv_at hl 0 rfl) ?_
        refine lv_sipush (v := 130) hx hb dX10_copy_21 (by decide) ?_
        refine lv_iload_n hx hb dX10_copy_24 rfl (lv_at hl 1 rfl) ?_
        refine lv_imul hx hb dX10_copy_25 ?_
        refine lv_iload hx hb dX10_copy_26 (lv_at hl 4 rfl) ?_
        refine lv_iadd hx hb dX10_copy_28 ?_
        obtain ⟨h9, hf⟩ := gd_s hf
        refine va_lald hx hb hE.1 hP 0 1 rfl rfl h9 dX10_copy_29 ?_
        obtain ⟨h9, hf⟩ := gd_s hf
        refine va_last hx hb hE.1 hP hD hS 0 1 rfl rfl h9 dX10_copy_30 (fun H locs hP hD hS => ?_)
        obtain ⟨g30, h9⟩ : ∃ z, z = (vp_updL p0_3 (((130 : Int32) * v3) + v4_3).toNatClampNeg (p0_3 (((130 : Int32) * v1) + v4_3).toNatClampNeg)) := ⟨_, rfl⟩
        have hf := lb_e h9 hf
        have hP : va_P (dC, dI) vwCl [(a_p0, .inl (cJ, n_p0, .inr (.inl g30)))] H := by rw [h9]; exact hP
        have hD : va_D A [(a_p0, .inl (cJ, n_p0, .inr (.inl g30)))] := by rw [h9]; exact hD
        obtain ⟨t31, h9⟩ : ∃ z : Int32, z = (v4_3 + (1 : Int32)) := ⟨_, rfl⟩
        have hf := lb_e h9 hf
        refine lv_iinc (v := t31) (lv' := [(4, .int t31), (0, .ref a_p0), (1, .int v1), (2, .ref a_p0), (3, .int v3)]) hx hb dX10_copy_31 hl (k := 4) rfl (by rw [h9]; rfl) (by decide) rfl (fun ls hl => ?_)
        refine lv_goto (tgt := 3) hx hb dX10_copy_34 (by decide) ?_
        exact ih3 t31 g30 ex3 H locs ls hf hk3 hP hD hS (lv_sub hl [1, 2, 3, 4, 0] rfl)
  obtain ⟨ex, h9, hf⟩ := ob_s hf
  exact K3 FU (0 : Int32) p0 ex H locs ls h9 hf hP hD hS (lv_sub hl [1, 2, 3, 4, 0] rfl)
set_option maxHeartbeats 4000000 in
set_option maxRecDepth 100000 in
theorem c_X10_record (ad : Nat → Nat) (m_undoCount : Int32) (m_thrown : Int32) (m_hasSnapshot : Bool) (m_rows : Int32) (m_lineLength : Int32) (m_formattedLength : Int32) (m_bufferLength : Int32) (m_limit : Int32) (m_next : Int32) (m_beginsAt : Int32) (m_token : Int32) (m_error : Int32) (m_errorAt : Int32) (m_errorPosition : Int32) (m_nested : Int32) (m_codeCount : Int32) (m_history : Nat → Int64) (m_now : Nat → Int64) (m_history_9 : Nat → Int64) (m_undoCount_9 : Int32) (hf : p10_record m_undoCount m_history m_now = some (m_history_9, m_undoCount_9)) : gM l dC dI cI cJ cZ yX10_record cX10_record 2 none (1) (24) [.ref (ad 0)] [(ad 0, .inr (10, oM ad m_undoCount m_thrown m_hasSnapshot (ad 1) m_rows m_lineLength m_formattedLength m_bufferLength m_limit m_next m_beginsAt m_token m_error m_errorAt m_errorPosition m_nested m_codeCount)), ((ad 4), .inl (cJ, 1300, .inr (.inl m_history))), ((ad 1), .inl (cJ, 130, .inr (.inl m_now)))] [(ad 0, .inr (10, oM ad m_undoCount_9 m_thrown m_hasSnapshot (ad 1) m_rows m_lineLength m_formattedLength m_bufferLength m_limit m_next m_beginsAt m_token m_error m_errorAt m_errorPosition m_nested m_codeCount)), ((ad 4), .inl (cJ, 1300, .inr (.inl m_history_9))), ((ad 1), .inl (cJ, 130, .inr (.inl m_now)))] none := by
  refine g_start (own := RX10) (by decide +kernel) rfl (Nat.le_of_ble_eq_true rfl) ?_
  intro p e s m below meth c A ls S hr hlocks hE hP hD hS hA hl hin
  have hx := S.1
  have hb := S.2.1
  have hml := S.2.2.1
  have hown := S.2.2.2.1
  have htg : ∀ z ∈ gw, z.before ([.ref (ad 0)] : List Value).toArray s = true := fun w h => S.2.2.2.2 w (List.mem_cons_of_mem _ h)
  have hl : lv_has ls 2 [(0, .ref (ad 0))] := hl
  have hS0 := hS
  obtain ⟨H, hH⟩ : ∃ H, H = s.heap := ⟨_, rfl⟩
  obtain ⟨locs, hlc⟩ : ∃ locs : List Loc, locs = [] := ⟨_, rfl⟩
  have hS : va_S A s.heap H locs := by rw [hH, hlc]; exact hS0
  have hP : va_P (dC, dI) vwCl [(ad 0, .inr (10, oM ad m_undoCount m_thrown m_hasSnapshot (ad 1) m_rows m_lineLength m_formattedLength m_bufferLength m_limit m_next m_beginsAt m_token m_error m_errorAt m_errorPosition m_nested m_codeCount)), ((ad 4), .inl (cJ, 1300, .inr (.inl m_history))), ((ad 1), .inl (cJ, 130, .inr (.inl m_now)))] H := by rw [hH]; exact hP
  suffices hgo : W p l e ({ frames := 1, cells := 0, slots := 0, locals := 24 }) s m ([.ref (ad 0)] : List Value).toArray below meth c H locs 0 0 (MQ below (gQ dC dI none A [(ad 0, .inr (10, oM ad m_undoCount_9 m_thrown m_hasSnapshot (ad 1) m_rows m_lineLength m_formattedLength m_bufferLength m_limit m_next m_beginsAt m_token m_error m_errorAt m_errorPosition m_nested m_codeCount)), ((ad 4), .inl (cJ, 1300, .inr (.inl m_history_9))), ((ad 1), .inl (cJ, 130, .inr (.inl m_now)))]) ([.ref (ad 0)] : List Value).toArray s 0 0 A) (F0 m 0 ls []) by rw [hH, hlc] at hgo; exact hgo
  rw [p10_record] at hf
  have J48 : ∀ (m_undoCount_48 : Int32) (m_history_48 : Nat → Int64) (H : Heap) (locs : List Loc) (ls : Array Slot), p10_record_J48 m_now m_undoCount_48 m_history_48 = some (m_history_9, m_undoCount_9) → va_P (dC, dI) vwCl [(ad 0, .inr (10, oM ad m_undoCount_48 m_thrown m_hasSnapshot (ad 1) m_rows m_lineLength m_formattedLength m_bufferLength m_limit m_next m_beginsAt m_token m_error m_errorAt m_errorPosition m_nested m_codeCount)), ((ad 4), .inl (cJ, 1300, .inr (.inl m_history_48))), ((ad 1), .inl (cJ, 130, .inr (.inl m_now)))] H → va_D A [(ad 0, .inr (10, oM ad m_undoCount_48 m_thrown m_hasSnapshot (ad 1) m_rows m_lineLength m_formattedLength m_bufferLength m_limit m_next m_beginsAt m_token m_error m_errorAt m_errorPosition m_nested m_codeCount)), ((ad 4), .inl (cJ, 1300, .inr (.inl m_history_48))), ((ad 1), .inl (cJ, 130, .inr (.inl m_now)))] → va_S A s.heap H locs → lv_has ls 2 [(0, .ref (ad 0))] → W p l e ({ frames := 1, cells := 0, slots := 0, locals := 24 }) s m ([.ref (ad 0)] : List Value).toArray below meth c H locs 0 0 (MQ below (gQ dC dI none A [(ad 0, .inr (10, oM ad m_undoCount_9 m_thrown m_hasSnapshot (ad 1) m_rows m_lineLength m_formattedLength m_bufferLength m_limit m_next m_beginsAt m_token m_error m_errorAt m_errorPosition m_nested m_codeCount)), ((ad 4), .inl (cJ, 1300, .inr (.inl m_history_9))), ((ad 1), .inl (cJ, 130, .inr (.inl m_now)))]) ([.ref (ad 0)] : List Value).toArray s 0 0 A) (F0 m 48 ls []) := by
    intro m_undoCount_48 m_history_48 H locs ls hf hP hD hS hl
    rw [p10_record_J48] at hf
    refine lv_aload_n hx hb dX10_record_48 rfl (lv_at hl 0 rfl) ?_
    refine va_get (D := (dC, dI)) (ci := 10) (v := .ref (ad 1)) (C := RX10) (T := TX10) (N := 37) hx hb htg inX10 hown hE.1 hP 0 rfl rfl 0 (by decide) (htg _ tw1382) (fun _ h9 => h9) rfl dX10_record_49 ?_
    refine lv_iconst (v := 0) hx hb dX10_record_52 (by decide) ?_
    refine lv_aload_n hx hb dX10_record_53 rfl (lv_at hl 0 rfl) ?_
    refine va_get (D := (dC, dI)) (ci := 10) (v := .ref (ad 4)) (C := RX10) (T := TX10) (N := 37) hx hb htg inX10 hown hE.1 hP 0 rfl rfl 3 (by decide) (htg _ tw1385) (fun _ h9 => h9) rfl dX10_record_54 ?_
    refine lv_aload_n hx hb dX10_record_57 rfl (lv_at hl 0 rfl) ?_
    refine va_get (D := (dC, dI)) (ci := 10) (v := .int m_undoCount_48) (C := RX10) (T := TX10) (N := 37) hx hb htg inX10 hown hE.1 hP 0 rfl rfl 4 (by decide) (htg _ tw1386) (fun _ h9 => h9) rfl dX10_record_58 ?_
    obtain ⟨m_history_61, h9, hf⟩ := ob_s hf
    refine gcS (index := 357) S hE (c_X10_copy (ad 1) (ad 4) m_now m_history_48 130 (Nat.le_of_ble_eq_true rfl) 1300 (Nat.le_of_ble_eq_true rfl) (0 : Int32) m_undoCount_48 m_history_61 h9) mX10_copy tw1850 ⟨Nat.le_of_ble_eq_true rfl, Nat.le_of_ble_eq_true rfl⟩ hP hD hS hA ⟨Nat.zero_le _, Nat.zero_le _⟩ (wr := [(ad 0, .inr (10, oM ad m_undoCount_48 m_thrown m_hasSnapshot (ad 1) m_rows m_lineLength m_formattedLength m_bufferLength m_limit m_next m_beginsAt m_token m_error m_errorAt m_errorPosition m_nested m_codeCount))]) [2, 1] [0] rfl rfl rfl rfl (by decide) (As := [.ref (ad 1), .int (0 : Int32), .ref (ad 4), .int m_undoCount_48]) (rest := []) rfl hl.1 rfl (Nat.le_of_ble_eq_true rfl) dX10_record_61 (fun H locs hP hD hS => ?_)
    refine W.eq (g2 := F0 m 64 ls []) rfl ?_
    have hP : va_P (dC, dI) vwCl [(ad 0, .inr (10, oM ad m_undoCount_48 m_thrown m_hasSnapshot (ad 1) m_rows m_lineLength m_formattedLength m_bufferLength m_limit m_next m_beginsAt m_token m_error m_errorAt m_errorPosition m_nested m_codeCount)), ((ad 1), .inl (cJ, 130, .inr (.inl m_now))), ((ad 4), .inl (cJ, 1300, .inr (.inl m_history_61)))] H := hP
    have hD : va_D A [(ad 0, .inr (10, oM ad m_undoCount_48 m_thrown m_hasSnapshot (ad 1) m_rows m_lineLength m_formattedLength m_bufferLength m_limit m_next m_beginsAt m_token m_error m_errorAt m_errorPosition m_nested m_codeCount)), ((ad 1), .inl (cJ, 130, .inr (.inl m_now))), ((ad 4), .inl (cJ, 1300, .inr (.inl m_history_61)))] := hD
    refine lv_aload_n hx hb dX10_record_64 rfl (lv_at hl 0 rfl) ?_
    refine lv_dup hx hb dX10_record_65 rfl ?_
    refine va_get (D := (dC, dI)) (ci := 10) (v := .int m_undoCount_48) (C := RX10) (T := TX10) (N := 37) hx hb htg inX10 hown hE.1 hP 0 rfl rfl 4 (by decide) (htg _ tw1386) (fun _ h9 => h9) rfl dX10_record_66 ?_
    refine lv_iconst (v := 1) hx hb dX10_record_69 (by decide) ?_
    refine lv_iadd hx hb dX10_record_70 ?_
    refine lv_topi (fun t71 h9 => ?_)
    have hf := lb_e h9 hf
    refine va_put (D := (dC, dI)) (ci := 10) (v := .int t71) (ty := .int) (C := RX10) (T := TX10) (N := 37) hx hb htg inX10 tyX10 tyX10_ok nmX10 hown hE.1 hP hD hS 0 rfl rfl 4 (by decide) (htg _ tw1386) (fun _ h9 => h9) rfl (by decide +kernel) rfl rfl (Nat.le_of_ble_eq_true rfl) dX10_record_71 (fun H locs hP hD hS => ?_)
    have hP : va_P (dC, dI) vwCl [(ad 0, .inr (10, oM ad t71 m_thrown m_hasSnapshot (ad 1) m_rows m_lineLength m_formattedLength m_bufferLength m_limit m_next m_beginsAt m_token m_error m_errorAt m_errorPosition m_nested m_codeCount)), ((ad 1), .inl (cJ, 130, .inr (.inl m_now))), ((ad 4), .inl (cJ, 1300, .inr (.inl m_history_61)))] H := hP
    have hD : va_D A [(ad 0, .inr (10, oM ad t71 m_thrown m_hasSnapshot (ad 1) m_rows m_lineLength m_formattedLength m_bufferLength m_limit m_next m_beginsAt m_token m_error m_errorAt m_errorPosition m_nested m_codeCount)), ((ad 1), .inl (cJ, 130, .inr (.inl m_now))), ((ad 4), .inl (cJ, 1300, .inr (.inl m_history_61)))] := hD
    cases hf
    exact g_vret S hr hlocks (hP.sub [0, 2, 1] rfl) (hD.sub [0, 2, 1] (by decide) rfl) hS dX10_record_74
  have J38 : ∀ (m_history_38 : Nat → Int64) (H : Heap) (locs : List Loc) (ls : Array Slot), p10_record_J38 m_now m_undoCount m_history_38 = some (m_history_9, m_undoCount_9) → va_P (dC, dI) vwCl [(ad 0, .inr (10, oM ad m_undoCount m_thrown m_hasSnapshot (ad 1) m_rows m_lineLength m_formattedLength m_bufferLength m_limit m_next m_beginsAt m_token m_error m_errorAt m_errorPosition m_nested m_codeCount)), ((ad 4), .inl (cJ, 1300, .inr (.inl m_history_38))), ((ad 1), .inl (cJ, 130, .inr (.inl m_now)))] H → va_D A [(ad 0, .inr (10, oM ad m_undoCount m_thrown m_hasSnapshot (ad 1) m_rows m_lineLength m_formattedLength m_bufferLength m_limit m_next m_beginsAt m_token m_error m_errorAt m_errorPosition m_nested m_codeCount)), ((ad 4), .inl (cJ, 1300, .inr (.inl m_history_38))), ((ad 1), .inl (cJ, 130, .inr (.inl m_now)))] → va_S A s.heap H locs → lv_has ls 2 [(0, .ref (ad 0))] → W p l e ({ frames := 1, cells := 0, slots := 0, locals := 24 }) s m ([.ref (ad 0)] : List Value).toArray below meth c H locs 0 0 (MQ below (gQ dC dI none A [(ad 0, .inr (10, oM ad m_undoCount_9 m_thrown m_hasSnapshot (ad 1) m_rows m_lineLength m_formattedLength m_bufferLength m_limit m_next m_beginsAt m_token m_error m_errorAt m_errorPosition m_nested m_codeCount)), ((ad 4), .inl (cJ, 1300, .inr (.inl m_history_9))), ((ad 1), .inl (cJ, 130, .inr (.inl m_now)))]) ([.ref (ad 0)] : List Value).toArray s 0 0 A) (F0 m 38 ls []) := by
    intro m_history_38 H locs ls hf hP hD hS hl
    rw [p10_record_J38] at hf
    refine lv_aload_n hx hb dX10_record_38 rfl (lv_at hl 0 rfl) ?_
    refine lv_dup hx hb dX10_record_39 rfl ?_
    refine va_get (D := (dC, dI)) (ci := 10) (v := .int m_undoCount) (C := RX10) (T := TX10) (N := 37) hx hb htg inX10 hown hE.1 hP 0 rfl rfl 4 (by decide) (htg _ tw1386) (fun _ h9 => h9) rfl dX10_record_40 ?_
    refine lv_iconst (v := 1) hx hb dX10_record_43 (by decide) ?_
    refine lv_isub hx hb dX10_record_44 ?_
    refine lv_topi (fun t45 h9 => ?_)
    have hf := lb_e h9 hf
    refine va_put (D := (dC, dI)) (ci := 10) (v := .int t45) (ty := .int) (C := RX10) (T := TX10) (N := 37) hx hb htg inX10 tyX10 tyX10_ok nmX10 hown hE.1 hP hD hS 0 rfl rfl 4 (by decide) (htg _ tw1386) (fun _ h9 => h9) rfl (by decide +kernel) rfl rfl (Nat.le_of_ble_eq_true rfl) dX10_record_45 (fun H locs hP hD hS => ?_)
    have hP : va_P (dC, dI) vwCl [(ad 0, .inr (10, oM ad t45 m_thrown m_hasSnapshot (ad 1) m_rows m_lineLength m_formattedLength m_bufferLength m_limit m_next m_beginsAt m_token m_error m_errorAt m_errorPosition m_nested m_codeCount)), ((ad 4), .inl (cJ, 1300, .inr (.inl m_history_38))), ((ad 1), .inl (cJ, 130, .inr (.inl m_now)))] H := hP
    have hD : va_D A [(ad 0, .inr (10, oM ad t45 m_thrown m_hasSnapshot (ad 1) m_rows m_lineLength m_formattedLength m_bufferLength m_limit m_next m_beginsAt m_token m_error m_errorAt m_errorPosition m_nested m_codeCount)), ((ad 4), .inl (cJ, 1300, .inr (.inl m_history_38))), ((ad 1), .inl (cJ, 130, .inr (.inl m_now)))] := hD
    exact J48 t45 m_history_38 H locs ls hf hP hD hS (lv_sub hl [0] rfl)
  refine lv_aload_n hx hb dX10_record_0 rfl (lv_at hl 0 rfl) ?_
  refine va_get (D := (dC, dI)) (ci := 10) (v := .int m_undoCount) (C := RX10) (T := TX10) (N := 37) hx hb htg inX10 hown hE.1 hP 0 rfl rfl 4 (by decide) (htg _ tw1386) (fun _ h9 => h9) rfl dX10_record_1 ?_
  refine lv_bipush (v := 10) hx hb dX10_record_4 (by decide) ?_
  refine lv_icmp_ne (tgt := 48) hx hb dX10_record_6 (by decide) (fun h9 => ?_) (fun h9 => ?_)
  · have hf := itf h9 hf
    exact J48 m_undoCount m_history H locs ls hf hP hD hS (lv_sub hl [0] rfl)
  · have hf := itt h9 hf
    refine lv_iconst (v := 1) hx hb dX10_record_9 (by decide) ?_
    refine lv_istore_n (lv' := [(1, .int (1 : Int32)), (0, .ref (ad 0))]) hx hb dX10_record_10 rfl hl (by decide) rfl (fun ls hl => ?_)
    have K11 : ∀ (n11 : Nat) (v1_11 : Int32) (m_history_11 : Nat → Int64) (ex11 : (Nat → Int64)) (H : Heap) (locs : List Loc) (ls : Array Slot), p10_record_L11 n11 v1_11 m_history_11 = some ex11 → (fun m_history_x11 => p10_record_J38 m_now m_undoCount m_history_x11) ex11 = some (m_history_9, m_undoCount_9) → va_P (dC, dI) vwCl [(ad 0, .inr (10, oM ad m_undoCount m_thrown m_hasSnapshot (ad 1) m_rows m_lineLength m_formattedLength m_bufferLength m_limit m_next m_beginsAt m_token m_error m_errorAt m_errorPosition m_nested m_codeCount)), ((ad 4), .inl (cJ, 1300, .inr (.inl m_history_11))), ((ad 1), .inl (cJ, 130, .inr (.inl m_now)))] H → va_D A [(ad 0, .inr (10, oM ad m_undoCount m_thrown m_hasSnapshot (ad 1) m_rows m_lineLength m_formattedLength m_bufferLength m_limit m_next m_beginsAt m_token m_error m_errorAt m_errorPosition m_nested m_codeCount)), ((ad 4), .inl (cJ, 1300, .inr (.inl m_history_11))), ((ad 1), .inl (cJ, 130, .inr (.inl m_now)))] → va_S A s.heap H locs → lv_has ls 2 [(0, .ref (ad 0)), (1, .int v1_11)] → W p l e ({ frames := 1, cells := 0, slots := 0, locals := 24 }) s m ([.ref (ad 0)] : List Value).toArray below meth c H locs 0 0 (MQ below (gQ dC dI none A [(ad 0, .inr (10, oM ad m_undoCount_9 m_thrown m_hasSnapshot (ad 1) m_rows m_lineLength m_formattedLength m_bufferLength m_limit m_next m_beginsAt m_token m_error m_errorAt m_errorPosition m_nested m_codeCount)), ((ad 4), .inl (cJ, 1300, .inr (.inl m_history_9))), ((ad 1), .inl (cJ, 130, .inr (.inl m_now)))]) ([.ref (ad 0)] : List Value).toArray s 0 0 A) (F0 m 11 ls []) := by
      intro n11
      induction n11 with
      | zero => intro v1_11 m_history_11 ex11 H locs ls hf; rw [p10_record_L11] at hf; cases hf
      | succ n11 ih11 =>
        intro v1_11 m_history_11 ex11 H locs ls hf hk11 hP hD hS hl
        rw [p10_record_L11, p10_record_L11_B] at hf
        refine lv_iload_n hx hb dX10_record_11 rfl (lv_at hl 1 rfl) ?_
        refine lv_bipush (v := 10) hx hb dX10_record_12 (by decide) ?_
        refine lv_icmp_ge (tgt := 38) hx hb dX10_record_14 (by decide) (fun h9 => ?_) (fun h9 => ?_)
        · have hf := itt h9 hf
          cases hf
          have hf := hk11
          exact J38 m_history_11 H locs ls hf hP hD hS (lv_sub hl [0] rfl)
        · have hf := itf h9 hf
          refine lv_aload_n hx hb dX10_record_17 rfl (lv_at hl 0 rfl) ?_
          refine va_get (D := (dC, dI)) (ci := 10) (v := .ref (ad 4)) (C := RX10) (T := TX10) (N := 37) hx hb htg inX10 hown hE.1 hP 0 rfl rfl 3 (by decide) (htg _ tw1385) (fun _ h9 => h9) rfl dX10_record_18 ?_
          refine lv_iload_n hx hb dX10_record_21 rfl (lv_at hl 1 rfl) ?_
          refine lv_aload_n hx hb dX10_record_22 rfl (lv_at hl 0 rfl) ?_
          refine va_get (D := (dC, dI)) (ci := 10) (v := .ref (ad 4)) (C := RX10) (T := TX10) (N := 37) hx hb htg inX10 hown hE.1 hP 0 rfl rfl 3 (by decide) (htg _ tw1385) (fun _ h9 => h9) rfl dX10_record_23 ?_
          refine lv_iload_n hx hb dX10_record_26 rfl (lv_at hl 1 rfl) ?_
          refine lv_iconst (v := 1) hx hb dX10_record_27 (by decide) ?_
          refine lv_isub hx hb dX10_record_28 ?_
          obtain ⟨m_history_29, h9, hf⟩ := ob_s hf
          refine gcS (index := 357) S hE (c_X10_copyS (ad 4) m_history_11 1300 (Nat.le_of_ble_eq_true rfl) v1_11 (v1_11 - (1 : Int32)) m_history_29 h9) mX10_copy tw1850 ⟨Nat.le_of_ble_eq_true rfl, Nat.le_of_ble_eq_true rfl⟩ hP hD hS hA ⟨Nat.zero_le _, Nat.zero_le _⟩ (wr := [(ad 0, .inr (10, oM ad m_undoCount m_thrown m_hasSnapshot (ad 1) m_rows m_lineLength m_formattedLength m_bufferLength m_limit m_next m_beginsAt m_token m_error m_errorAt m_errorPosition m_nested m_codeCount)), ((ad 1), .inl (cJ, 130, .inr (.inl m_now)))]) [1] [0, 2] rfl rfl rfl rfl (by decide) (As := [.ref (ad 4), .int v1_11, .ref (ad 4), .int (v1_11 - (1 : Int32))]) (rest := []) rfl hl.1 rfl (Nat.le_of_ble_eq_true rfl) dX10_record_29 (fun H locs hP hD hS => ?_)
          refine W.eq (g2 := F0 m 32 ls []) rfl ?_
          have hP : va_P (dC, dI) vwCl [(ad 0, .inr (10, oM ad m_undoCount m_thrown m_hasSnapshot (ad 1) m_rows m_lineLength m_formattedLength m_bufferLength m_limit m_next m_beginsAt m_token m_error m_errorAt m_errorPosition m_nested m_codeCount)), ((ad 1), .inl (cJ, 130, .inr (.inl m_now))), ((ad 4), .inl (cJ, 1300, .inr (.inl m_history_29)))] H := hP
          have hD : va_D A [(ad 0, .inr (10, oM ad m_undoCount m_thrown m_hasSnapshot (ad 1) m_rows m_lineLength m_formattedLength m_bufferLength m_limit m_next m_beginsAt m_token m_error m_errorAt m_errorPosition m_nested m_codeCount)), ((ad 1), .inl (cJ, 130, .inr (.inl m_now))), ((ad 4), .inl (cJ, 1300, .inr (.inl m_history_29)))] := hD
          obtain ⟨t32, h9⟩ : ∃ z : Int32, z = (v1_11 + (1 : Int32)) := ⟨_, rfl⟩
          have hf := lb_e h9 hf
          refine lv_iinc (v := t32) (lv' := [(1, .int t32), (0, .ref (ad 0))]) hx hb dX10_record_32 hl (k := 1) rfl (by rw [h9]; rfl) (by decide) rfl (fun ls hl => ?_)
          refine lv_goto (tgt := 11) hx hb dX10_record_35 (by decide) ?_
          exact ih11 t32 m_history_29 ex11 H locs ls hf hk11 (hP.sub [0, 2, 1] rfl) (hD.sub [0, 2, 1] (by decide) rfl) hS (lv_sub hl [1, 0] rfl)
    obtain ⟨ex, h9, hf⟩ := ob_s hf
    exact K11 FU (1 : Int32) m_history ex H locs ls h9 hf hP hD hS (lv_sub hl [1, 0] rfl)
set_option maxHeartbeats 4000000 in
set_option maxRecDepth 100000 in
theorem c_X10_undoCount (ad : Nat → Nat) (a_m_fam : Nat) (m_undoCount : Int32) (m_thrown : Int32) (m_hasSnapshot : Bool) (m_rows : Int32) (m_lineLength : Int32) (m_formattedLength : Int32) (m_bufferLength : Int32) (m_limit : Int32) (m_next : Int32) (m_beginsAt : Int32) (m_token : Int32) (m_error : Int32) (m_errorAt : Int32) (m_errorPosition : Int32) (m_nested : Int32) (m_codeCount : Int32) (r9 : Int32) (m_thrown_9 : Int32) (hf : p10_undoCount m_undoCount = (r9, m_thrown_9)) : gM l dC dI cI cJ cZ yX10_undoCount cX10_undoCount 1 (some .int) (0) (0) [.ref (ad 0)] [(ad 0, .inr (10, oM ad m_undoCount m_thrown m_hasSnapshot a_m_fam m_rows m_lineLength m_formattedLength m_bufferLength m_limit m_next m_beginsAt m_token m_error m_errorAt m_errorPosition m_nested m_codeCount))] [(ad 0, .inr (10, oM ad m_undoCount m_thrown_9 m_hasSnapshot a_m_fam m_rows m_lineLength m_formattedLength m_bufferLength m_limit m_next m_beginsAt m_token m_error m_errorAt m_errorPosition m_nested m_codeCount))] (some (.int r9)) := by
  refine g_start (own := RX10) (by decide +kernel) rfl (Nat.le_of_ble_eq_true rfl) ?_
  intro p e s m below meth c A ls S hr hlocks hE hP hD hS hA hl hin
  have hx := S.1
  have hb := S.2.1
  have hml := S.2.2.1
  have hown := S.2.2.2.1
  have htg : ∀ z ∈ gw, z.before ([.ref (ad 0)] : List Value).toArray s = true := fun w h => S.2.2.2.2 w (List.mem_cons_of_mem _ h)
  have hl : lv_has ls 1 [(0, .ref (ad 0))] := hl
  have hS0 := hS
  obtain ⟨H, hH⟩ : ∃ H, H = s.heap := ⟨_, rfl⟩
  obtain ⟨locs, hlc⟩ : ∃ locs : List Loc, locs = [] := ⟨_, rfl⟩
  have hS : va_S A s.heap H locs := by rw [hH, hlc]; exact hS0
  have hP : va_P (dC, dI) vwCl [(ad 0, .inr (10, oM ad m_undoCount m_thrown m_hasSnapshot a_m_fam m_rows m_lineLength m_formattedLength m_bufferLength m_limit m_next m_beginsAt m_token m_error m_errorAt m_errorPosition m_nested m_codeCount))] H := by rw [hH]; exact hP
  suffices hgo : W p l e ({ frames := 0, cells := 0, slots := 0, locals := 0 }) s m ([.ref (ad 0)] : List Value).toArray below meth c H locs 0 0 (MQ below (gQ dC dI (some (.int r9)) A [(ad 0, .inr (10, oM ad m_undoCount m_thrown_9 m_hasSnapshot a_m_fam m_rows m_lineLength m_formattedLength m_bufferLength m_limit m_next m_beginsAt m_token m_error m_errorAt m_errorPosition m_nested m_codeCount))]) ([.ref (ad 0)] : List Value).toArray s 0 0 A) (F0 m 0 ls []) by rw [hH, hlc] at hgo; exact hgo
  rw [p10_undoCount] at hf
  refine lv_aload_n hx hb dX10_undoCount_0 rfl (lv_at hl 0 rfl) ?_
  refine lv_iconst (v := 0) hx hb dX10_undoCount_1 (by decide) ?_
  refine va_put (D := (dC, dI)) (ci := 10) (v := .int (0 : Int32)) (ty := .int) (C := RX10) (T := TX10) (N := 37) hx hb htg inX10 tyX10 tyX10_ok nmX10 hown hE.1 hP hD hS 0 rfl rfl 5 (by decide) (htg _ tw1387) (fun _ h9 => h9) rfl (by decide +kernel) rfl rfl (Nat.le_of_ble_eq_true rfl) dX10_undoCount_2 (fun H locs hP hD hS => ?_)
  have hP : va_P (dC, dI) vwCl [(ad 0, .inr (10, oM ad m_undoCount (0 : Int32) m_hasSnapshot a_m_fam m_rows m_lineLength m_formattedLength m_bufferLength m_limit m_next m_beginsAt m_token m_error m_errorAt m_errorPosition m_nested m_codeCount))] H := hP
  have hD : va_D A [(ad 0, .inr (10, oM ad m_undoCount (0 : Int32) m_hasSnapshot a_m_fam m_rows m_lineLength m_formattedLength m_bufferLength m_limit m_next m_beginsAt m_token m_error m_errorAt m_errorPosition m_nested m_codeCount))] := hD
  refine lv_aload_n hx hb dX10_undoCount_5 rfl (lv_at hl 0 rfl) ?_
  refine va_get (D := (dC, dI)) (ci := 10) (v := .int m_undoCount) (C := RX10) (T := TX10) (N := 37) hx hb htg inX10 hown hE.1 hP 0 rfl rfl 4 (by decide) (htg _ tw1386) (fun _ h9 => h9) rfl dX10_undoCount_6 ?_
  cases hf
  exact g_iret S hr hlocks hP hD hS dX10_undoCount_9
set_option maxHeartbeats 4000000 in
set_option maxRecDepth 100000 in
theorem c_X10_undo (ad : Nat → Nat) (m_undoCount : Int32) (m_thrown : Int32) (m_hasSnapshot : Bool) (m_rows : Int32) (m_lineLength : Int32) (m_formattedLength : Int32) (m_bufferLength : Int32) (m_limit : Int32) (m_next : Int32) (m_beginsAt : Int32) (m_token : Int32) (m_error : Int32) (m_errorAt : Int32) (m_errorPosition : Int32) (m_nested : Int32) (m_codeCount : Int32) (m_history : Nat → Int64) (m_now : Nat → Int64) (r9 : Int32) (m_now_9 : Nat → Int64) (m_thrown_9 : Int32) (m_undoCount_9 : Int32) (hf : p10_undo m_undoCount m_history m_now = some (r9, m_now_9, m_thrown_9, m_undoCount_9)) : gM l dC dI cI cJ cZ yX10_undo cX10_undo 1 (some .int) (1) (24) [.ref (ad 0)] [(ad 0, .inr (10, oM ad m_undoCount m_thrown m_hasSnapshot (ad 1) m_rows m_lineLength m_formattedLength m_bufferLength m_limit m_next m_beginsAt m_token m_error m_errorAt m_errorPosition m_nested m_codeCount)), ((ad 4), .inl (cJ, 1300, .inr (.inl m_history))), ((ad 1), .inl (cJ, 130, .inr (.inl m_now)))] [(ad 0, .inr (10, oM ad m_undoCount_9 m_thrown_9 m_hasSnapshot (ad 1) m_rows m_lineLength m_formattedLength m_bufferLength m_limit m_next m_beginsAt m_token m_error m_errorAt m_errorPosition m_nested m_codeCount)), ((ad 4), .inl (cJ, 1300, .inr (.inl m_history))), ((ad 1), .inl (cJ, 130, .inr (.inl m_now_9)))] (some (.int r9)) := by
  refine g_start (own := RX10) (by decide +kernel) rfl (Nat.le_of_ble_eq_true rfl) ?_
  intro p e s m below meth c A ls S hr hlocks hE hP hD hS hA hl hin
  have hx := S.1
  have hb := S.2.1
  have hml := S.2.2.1
  have hown := S.2.2.2.1
  have htg : ∀ z ∈ gw, z.before ([.ref (ad 0)] : List Value).toArray s = true := fun w h => S.2.2.2.2 w (List.mem_cons_of_mem _ h)
  have hl : lv_has ls 1 [(0, .ref (ad 0))] := hl
  have hS0 := hS
  obtain ⟨H, hH⟩ : ∃ H, H = s.heap := ⟨_, rfl⟩
  obtain ⟨locs, hlc⟩ : ∃ locs : List Loc, locs = [] := ⟨_, rfl⟩
  have hS : va_S A s.heap H locs := by rw [hH, hlc]; exact hS0
  have hP : va_P (dC, dI) vwCl [(ad 0, .inr (10, oM ad m_undoCount m_thrown m_hasSnapshot (ad 1) m_rows m_lineLength m_formattedLength m_bufferLength m_limit m_next m_beginsAt m_token m_error m_errorAt m_errorPosition m_nested m_codeCount)), ((ad 4), .inl (cJ, 1300, .inr (.inl m_history))), ((ad 1), .inl (cJ, 130, .inr (.inl m_now)))] H := by rw [hH]; exact hP
  suffices hgo : W p l e ({ frames := 1, cells := 0, slots := 0, locals := 24 }) s m ([.ref (ad 0)] : List Value).toArray below meth c H locs 0 0 (MQ below (gQ dC dI (some (.int r9)) A [(ad 0, .inr (10, oM ad m_undoCount_9 m_thrown_9 m_hasSnapshot (ad 1) m_rows m_lineLength m_formattedLength m_bufferLength m_limit m_next m_beginsAt m_token m_error m_errorAt m_errorPosition m_nested m_codeCount)), ((ad 4), .inl (cJ, 1300, .inr (.inl m_history))), ((ad 1), .inl (cJ, 130, .inr (.inl m_now_9)))]) ([.ref (ad 0)] : List Value).toArray s 0 0 A) (F0 m 0 ls []) by rw [hH, hlc] at hgo; exact hgo
  rw [p10_undo] at hf
  refine lv_aload_n hx hb dX10_undo_0 rfl (lv_at hl 0 rfl) ?_
  refine lv_iconst (v := 0) hx hb dX10_undo_1 (by decide) ?_
  refine va_put (D := (dC, dI)) (ci := 10) (v := .int (0 : Int32)) (ty := .int) (C := RX10) (T := TX10) (N := 37) hx hb htg inX10 tyX10 tyX10_ok nmX10 hown hE.1 hP hD hS 0 rfl rfl 5 (by decide) (htg _ tw1387) (fun _ h9 => h9) rfl (by decide +kernel) rfl rfl (Nat.le_of_ble_eq_true rfl) dX10_undo_2 (fun H locs hP hD hS => ?_)
  have hP : va_P (dC, dI) vwCl [(ad 0, .inr (10, oM ad m_undoCount (0 : Int32) m_hasSnapshot (ad 1) m_rows m_lineLength m_formattedLength m_bufferLength m_limit m_next m_beginsAt m_token m_error m_errorAt m_errorPosition m_nested m_codeCount)), ((ad 4), .inl (cJ, 1300, .inr (.inl m_history))), ((ad 1), .inl (cJ, 130, .inr (.inl m_now)))] H := hP
  have hD : va_D A [(ad 0, .inr (10, oM ad m_undoCount (0 : Int32) m_hasSnapshot (ad 1) m_rows m_lineLength m_formattedLength m_bufferLength m_limit m_next m_beginsAt m_token m_error m_errorAt m_errorPosition m_nested m_codeCount)), ((ad 4), .inl (cJ, 1300, .inr (.inl m_history))), ((ad 1), .inl (cJ, 130, .inr (.inl m_now)))] := hD
  refine lv_aload_n hx hb dX10_undo_5 rfl (lv_at hl 0 rfl) ?_
  refine va_get (D := (dC, dI)) (ci := 10) (v := .int m_undoCount) (C := RX10) (T := TX10) (N := 37) hx hb htg inX10 hown hE.1 hP 0 rfl rfl 4 (by decide) (htg _ tw1386) (fun _ h9 => h9) rfl dX10_undo_6 ?_
  refine lv_if_ne (tgt := 14) hx hb dX10_undo_9 (by decide) (fun h9 => ?_) (fun h9 => ?_)
  · have hf := itf h9 hf
    refine lv_aload_n hx hb dX10_undo_14 rfl (lv_at hl 0 rfl) ?_
    refine lv_dup hx hb dX10_undo_15 rfl ?_
    refine va_get (D := (dC, dI)) (ci := 10) (v := .int m_undoCount) (C := RX10) (T := TX10) (N := 37) hx hb htg inX10 hown hE.1 hP 0 rfl rfl 4 (by decide) (htg _ tw1386) (fun _ h9 => h9) rfl dX10_undo_16 ?_
    refine lv_iconst (v := 1) hx hb dX10_undo_19 (by decide) ?_
    refine lv_isub hx hb dX10_undo_20 ?_
    refine lv_topi (fun t21 h9 => ?_)
    have hf := lb_e h9 hf
    refine va_put (D := (dC, dI)) (ci := 10) (v := .int t21) (ty := .int) (C := RX10) (T := TX10) (N := 37) hx hb htg inX10 tyX10 tyX10_ok nmX10 hown hE.1 hP hD hS 0 rfl rfl 4 (by decide) (htg _ tw1386) (fun _ h9 => h9) rfl (by decide +kernel) rfl rfl (Nat.le_of_ble_eq_true rfl) dX10_undo_21 (fun H locs hP hD hS => ?_)
    have hP : va_P (dC, dI) vwCl [(ad 0, .inr (10, oM ad t21 (0 : Int32) m_hasSnapshot (ad 1) m_rows m_lineLength m_formattedLength m_bufferLength m_limit m_next m_beginsAt m_token m_error m_errorAt m_errorPosition m_nested m_codeCount)), ((ad 4), .inl (cJ, 1300, .inr (.inl m_history))), ((ad 1), .inl (cJ, 130, .inr (.inl m_now)))] H := hP
    have hD : va_D A [(ad 0, .inr (10, oM ad t21 (0 : Int32) m_hasSnapshot (ad 1) m_rows m_lineLength m_formattedLength m_bufferLength m_limit m_next m_beginsAt m_token m_error m_errorAt m_errorPosition m_nested m_codeCount)), ((ad 4), .inl (cJ, 1300, .inr (.inl m_history))), ((ad 1), .inl (cJ, 130, .inr (.inl m_now)))] := hD
    refine lv_aload_n hx hb dX10_undo_24 rfl (lv_at hl 0 rfl) ?_
    refine va_get (D := (dC, dI)) (ci := 10) (v := .ref (ad 4)) (C := RX10) (T := TX10) (N := 37) hx hb htg inX10 hown hE.1 hP 0 rfl rfl 3 (by decide) (htg _ tw1385) (fun _ h9 => h9) rfl dX10_undo_25 ?_
    refine lv_aload_n hx hb dX10_undo_28 rfl (lv_at hl 0 rfl) ?_
    refine va_get (D := (dC, dI)) (ci := 10) (v := .int t21) (C := RX10) (T := TX10) (N := 37) hx hb htg inX10 hown hE.1 hP 0 rfl rfl 4 (by decide) (htg _ tw1386) (fun _ h9 => h9) rfl dX10_undo_29 ?_
    refine lv_aload_n hx hb dX10_undo_32 rfl (lv_at hl 0 rfl) ?_
    refine va_get (D := (dC, dI)) (ci := 10) (v := .ref (ad 1)) (C := RX10) (T := TX10) (N := 37) hx hb htg inX10 hown hE.1 hP 0 rfl rfl 0 (by decide) (htg _ tw1382) (fun _ h9 => h9) rfl dX10_undo_33 ?_
    refine lv_iconst (v := 0) hx hb dX10_undo_36 (by decide) ?_
    obtain ⟨m_now_37, h9, hf⟩ := ob_s hf
    refine gcS (index := 357) S hE (c_X10_copy (ad 4) (ad 1) m_history m_now 1300 (Nat.le_of_ble_eq_true rfl) 130 (Nat.le_of_ble_eq_true rfl) t21 (0 : Int32) m_now_37 h9) mX10_copy tw1850 ⟨Nat.le_of_ble_eq_true rfl, Nat.le_of_ble_eq_true rfl⟩ hP hD hS hA ⟨Nat.zero_le _, Nat.zero_le _⟩ (wr := [(ad 0, .inr (10, oM ad t21 (0 : Int32) m_hasSnapshot (ad 1) m_rows m_lineLength m_formattedLength m_bufferLength m_limit m_next m_beginsAt m_token m_error m_errorAt m_errorPosition m_nested m_codeCount))]) [1, 2] [0] rfl rfl rfl rfl (by decide) (As := [.ref (ad 4), .int t21, .ref (ad 1), .int (0 : Int32)]) (rest := []) rfl hl.1 rfl (Nat.le_of_ble_eq_true rfl) dX10_undo_37 (fun H locs hP hD hS => ?_)
    refine W.eq (g2 := F0 m 40 ls []) rfl ?_
    have hP : va_P (dC, dI) vwCl [(ad 0, .inr (10, oM ad t21 (0 : Int32) m_hasSnapshot (ad 1) m_rows m_lineLength m_formattedLength m_bufferLength m_limit m_next m_beginsAt m_token m_error m_errorAt m_errorPosition m_nested m_codeCount)), ((ad 4), .inl (cJ, 1300, .inr (.inl m_history))), ((ad 1), .inl (cJ, 130, .inr (.inl m_now_37)))] H := hP
    have hD : va_D A [(ad 0, .inr (10, oM ad t21 (0 : Int32) m_hasSnapshot (ad 1) m_rows m_lineLength m_formattedLength m_bufferLength m_limit m_next m_beginsAt m_token m_error m_errorAt m_errorPosition m_nested m_codeCount)), ((ad 4), .inl (cJ, 1300, .inr (.inl m_history))), ((ad 1), .inl (cJ, 130, .inr (.inl m_now_37)))] := hD
    refine lv_aload_n hx hb dX10_undo_40 rfl (lv_at hl 0 rfl) ?_
    refine va_get (D := (dC, dI)) (ci := 10) (v := .int t21) (C := RX10) (T := TX10) (N := 37) hx hb htg inX10 hown hE.1 hP 0 rfl rfl 4 (by decide) (htg _ tw1386) (fun _ h9 => h9) rfl dX10_undo_41 ?_
    cases hf
    exact g_iret S hr hlocks hP hD hS dX10_undo_44
  · have hf := itt h9 hf
    refine lv_iconst (v := -1) hx hb dX10_undo_12 (by decide) ?_
    cases hf
    exact g_iret S hr hlocks hP hD hS dX10_undo_13
set_option maxHeartbeats 4000000 in
set_option maxRecDepth 100000 in
theorem c_X10_saveSnapshot (ad : Nat → Nat) (m_undoCount : Int32) (m_thrown : Int32) (m_hasSnapshot : Bool) (m_rows : Int32) (m_lineLength : Int32) (m_formattedLength : Int32) (m_bufferLength : Int32) (m_limit : Int32) (m_next : Int32) (m_beginsAt : Int32) (m_token : Int32) (m_error : Int32) (m_errorAt : Int32) (m_errorPosition : Int32) (m_nested : Int32) (m_codeCount : Int32) (m_now : Nat → Int64) (m_snapshot : Nat → Int64) (m_hasSnapshot_9 : Bool) (m_snapshot_9 : Nat → Int64) (m_thrown_9 : Int32) (hf : p10_saveSnapshot m_now m_snapshot = some (m_hasSnapshot_9, m_snapshot_9, m_thrown_9)) : gM l dC dI cI cJ cZ yX10_saveSnapshot cX10_saveSnapshot 1 none (1) (24) [.ref (ad 0)] [(ad 0, .inr (10, oM ad m_undoCount m_thrown m_hasSnapshot (ad 1) m_rows m_lineLength m_formattedLength m_bufferLength m_limit m_next m_beginsAt m_token m_error m_errorAt m_errorPosition m_nested m_codeCount)), ((ad 1), .inl (cJ, 130, .inr (.inl m_now))), ((ad 3), .inl (cJ, 130, .inr (.inl m_snapshot)))] [(ad 0, .inr (10, oM ad m_undoCount m_thrown_9 m_hasSnapshot_9 (ad 1) m_rows m_lineLength m_formattedLength m_bufferLength m_limit m_next m_beginsAt m_token m_error m_errorAt m_errorPosition m_nested m_codeCount)), ((ad 1), .inl (cJ, 130, .inr (.inl m_now))), ((ad 3), .inl (cJ, 130, .inr (.inl m_snapshot_9)))] none := by
  refine g_start (own := RX10) (by decide +kernel) rfl (Nat.le_of_ble_eq_true rfl) ?_
  intro p e s m below meth c A ls S hr hlocks hE hP hD hS hA hl hin
  have hx := S.1
  have hb := S.2.1
  have hml := S.2.2.1
  have hown := S.2.2.2.1
  have htg : ∀ z ∈ gw, z.before ([.ref (ad 0)] : List Value).toArray s = true := fun w h => S.2.2.2.2 w (List.mem_cons_of_mem _ h)
  have hl : lv_has ls 1 [(0, .ref (ad 0))] := hl
  have hS0 := hS
  obtain ⟨H, hH⟩ : ∃ H, H = s.heap := ⟨_, rfl⟩
  obtain ⟨locs, hlc⟩ : ∃ locs : List Loc, locs = [] := ⟨_, rfl⟩
  have hS : va_S A s.heap H locs := by rw [hH, hlc]; exact hS0
  have hP : va_P (dC, dI) vwCl [(ad 0, .inr (10, oM ad m_undoCount m_thrown m_hasSnapshot (ad 1) m_rows m_lineLength m_formattedLength m_bufferLength m_limit m_next m_beginsAt m_token m_error m_errorAt m_errorPosition m_nested m_codeCount)), ((ad 1), .inl (cJ, 130, .inr (.inl m_now))), ((ad 3), .inl (cJ, 130, .inr (.inl m_snapshot)))] H := by rw [hH]; exact hP
  suffices hgo : W p l e ({ frames := 1, cells := 0, slots := 0, locals := 24 }) s m ([.ref (ad 0)] : List Value).toArray below meth c H locs 0 0 (MQ below (gQ dC dI none A [(ad 0, .inr (10, oM ad m_undoCount m_thrown_9 m_hasSnapshot_9 (ad 1) m_rows m_lineLength m_formattedLength m_bufferLength m_limit m_next m_beginsAt m_token m_error m_errorAt m_errorPosition m_nested m_codeCount)), ((ad 1), .inl (cJ, 130, .inr (.inl m_now))), ((ad 3), .inl (cJ, 130, .inr (.inl m_snapshot_9)))]) ([.ref (ad 0)] : List Value).toArray s 0 0 A) (F0 m 0 ls []) by rw [hH, hlc] at hgo; exact hgo
  rw [p10_saveSnapshot] at hf
  refine lv_aload_n hx hb dX10_saveSnapshot_0 rfl (lv_at hl 0 rfl) ?_
  refine lv_iconst (v := 0) hx hb dX10_saveSnapshot_1 (by decide) ?_
  refine va_put (D := (dC, dI)) (ci := 10) (v := .int (0 : Int32)) (ty := .int) (C := RX10) (T := TX10) (N := 37) hx hb htg inX10 tyX10 tyX10_ok nmX10 hown hE.1 hP hD hS 0 rfl rfl 5 (by decide) (htg _ tw1387) (fun _ h9 => h9) rfl (by decide +kernel) rfl rfl (Nat.le_of_ble_eq_true rfl) dX10_saveSnapshot_2 (fun H locs hP hD hS => ?_)
  have hP : va_P (dC, dI) vwCl [(ad 0, .inr (10, oM ad m_undoCount (0 : Int32) m_hasSnapshot (ad 1) m_rows m_lineLength m_formattedLength m_bufferLength m_limit m_next m_beginsAt m_token m_error m_errorAt m_errorPosition m_nested m_codeCount)), ((ad 1), .inl (cJ, 130, .inr (.inl m_now))), ((ad 3), .inl (cJ, 130, .inr (.inl m_snapshot)))] H := hP
  have hD : va_D A [(ad 0, .inr (10, oM ad m_undoCount (0 : Int32) m_hasSnapshot (ad 1) m_rows m_lineLength m_formattedLength m_bufferLength m_limit m_next m_beginsAt m_token m_error m_errorAt m_errorPosition m_nested m_codeCount)), ((ad 1), .inl (cJ, 130, .inr (.inl m_now))), ((ad 3), .inl (cJ, 130, .inr (.inl m_snapshot)))] := hD
  refine lv_aload_n hx hb dX10_saveSnapshot_5 rfl (lv_at hl 0 rfl) ?_
  refine va_get (D := (dC, dI)) (ci := 10) (v := .ref (ad 1)) (C := RX10) (T := TX10) (N := 37) hx hb htg inX10 hown hE.1 hP 0 rfl rfl 0 (by decide) (htg _ tw1382) (fun _ h9 => h9) rfl dX10_saveSnapshot_6 ?_
  refine lv_iconst (v := 0) hx hb dX10_saveSnapshot_9 (by decide) ?_
  refine lv_aload_n hx hb dX10_saveSnapshot_10 rfl (lv_at hl 0 rfl) ?_
  refine va_get (D := (dC, dI)) (ci := 10) (v := .ref (ad 3)) (C := RX10) (T := TX10) (N := 37) hx hb htg inX10 hown hE.1 hP 0 rfl rfl 2 (by decide) (htg _ tw1384) (fun _ h9 => h9) rfl dX10_saveSnapshot_11 ?_
  refine lv_iconst (v := 0) hx hb dX10_saveSnapshot_14 (by decide) ?_
  obtain ⟨m_snapshot_15, h9, hf⟩ := ob_s hf
  refine gcS (index := 357) S hE (c_X10_copy (ad 1) (ad 3) m_now m_snapshot 130 (Nat.le_of_ble_eq_true rfl) 130 (Nat.le_of_ble_eq_true rfl) (0 : Int32) (0 : Int32) m_snapshot_15 h9) mX10_copy tw1850 ⟨Nat.le_of_ble_eq_true rfl, Nat.le_of_ble_eq_true rfl⟩ hP hD hS hA ⟨Nat.zero_le _, Nat.zero_le _⟩ (wr := [(ad 0, .inr (10, oM ad m_undoCount (0 : Int32) m_hasSnapshot (ad 1) m_rows m_lineLength m_formattedLength m_bufferLength m_limit m_next m_beginsAt m_token m_error m_errorAt m_errorPosition m_nested m_codeCount))]) [1, 2] [0] rfl rfl rfl rfl (by decide) (As := [.ref (ad 1), .int (0 : Int32), .ref (ad 3), .int (0 : Int32)]) (rest := []) rfl hl.1 rfl (Nat.le_of_ble_eq_true rfl) dX10_saveSnapshot_15 (fun H locs hP hD hS => ?_)
  refine W.eq (g2 := F0 m 18 ls []) rfl ?_
  have hP : va_P (dC, dI) vwCl [(ad 0, .inr (10, oM ad m_undoCount (0 : Int32) m_hasSnapshot (ad 1) m_rows m_lineLength m_formattedLength m_bufferLength m_limit m_next m_beginsAt m_token m_error m_errorAt m_errorPosition m_nested m_codeCount)), ((ad 1), .inl (cJ, 130, .inr (.inl m_now))), ((ad 3), .inl (cJ, 130, .inr (.inl m_snapshot_15)))] H := hP
  have hD : va_D A [(ad 0, .inr (10, oM ad m_undoCount (0 : Int32) m_hasSnapshot (ad 1) m_rows m_lineLength m_formattedLength m_bufferLength m_limit m_next m_beginsAt m_token m_error m_errorAt m_errorPosition m_nested m_codeCount)), ((ad 1), .inl (cJ, 130, .inr (.inl m_now))), ((ad 3), .inl (cJ, 130, .inr (.inl m_snapshot_15)))] := hD
  refine lv_aload_n hx hb dX10_saveSnapshot_18 rfl (lv_at hl 0 rfl) ?_
  refine lv_iconst (v := 1) hx hb dX10_saveSnapshot_19 (by decide) ?_
  refine va_put (D := (dC, dI)) (ci := 10) (v := .int (bI true)) (ty := .boolean) (C := RX10) (T := TX10) (N := 37) hx hb htg inX10 tyX10 tyX10_ok nmX10 hown hE.1 hP hD hS 0 rfl rfl 6 (by decide) (htg _ tw1388) (fun _ h9 => h9) rfl (by decide +kernel) (nar_bI _) (fit_bI _) (Nat.le_of_ble_eq_true rfl) dX10_saveSnapshot_20 (fun H locs hP hD hS => ?_)
  have hP : va_P (dC, dI) vwCl [(ad 0, .inr (10, oM ad m_undoCount (0 : Int32) true (ad 1) m_rows m_lineLength m_formattedLength m_bufferLength m_limit m_next m_beginsAt m_token m_error m_errorAt m_errorPosition m_nested m_codeCount)), ((ad 1), .inl (cJ, 130, .inr (.inl m_now))), ((ad 3), .inl (cJ, 130, .inr (.inl m_snapshot_15)))] H := hP
  have hD : va_D A [(ad 0, .inr (10, oM ad m_undoCount (0 : Int32) true (ad 1) m_rows m_lineLength m_formattedLength m_bufferLength m_limit m_next m_beginsAt m_token m_error m_errorAt m_errorPosition m_nested m_codeCount)), ((ad 1), .inl (cJ, 130, .inr (.inl m_now))), ((ad 3), .inl (cJ, 130, .inr (.inl m_snapshot_15)))] := hD
  cases hf
  exact g_vret S hr hlocks hP hD hS dX10_saveSnapshot_23
set_option maxHeartbeats 4000000 in
set_option maxRecDepth 100000 in
theorem c_X10_restoreSnapshot (ad : Nat → Nat) (m_undoCount : Int32) (m_thrown : Int32) (m_hasSnapshot : Bool) (m_rows : Int32) (m_lineLength : Int32) (m_formattedLength : Int32) (m_bufferLength : Int32) (m_limit : Int32) (m_next : Int32) (m_beginsAt : Int32) (m_token : Int32) (m_error : Int32) (m_errorAt : Int32) (m_errorPosition : Int32) (m_nested : Int32) (m_codeCount : Int32) (m_now : Nat → Int64) (m_snapshot : Nat → Int64) (r9 : Bool) (m_now_9 : Nat → Int64) (m_thrown_9 : Int32) (m_undoCount_9 : Int32) (hf : p10_restoreSnapshot m_undoCount m_hasSnapshot m_now m_snapshot = some (r9, m_now_9, m_thrown_9, m_undoCount_9)) : gM l dC dI cI cJ cZ yX10_restoreSnapshot cX10_restoreSnapshot 1 (some .boolean) (1) (24) [.ref (ad 0)] [(ad 0, .inr (10, oM ad m_undoCount m_thrown m_hasSnapshot (ad 1) m_rows m_lineLength m_formattedLength m_bufferLength m_limit m_next m_beginsAt m_token m_error m_errorAt m_errorPosition m_nested m_codeCount)), ((ad 1), .inl (cJ, 130, .inr (.inl m_now))), ((ad 3), .inl (cJ, 130, .inr (.inl m_snapshot)))] [(ad 0, .inr (10, oM ad m_undoCount_9 m_thrown_9 m_hasSnapshot (ad 1) m_rows m_lineLength m_formattedLength m_bufferLength m_limit m_next m_beginsAt m_token m_error m_errorAt m_errorPosition m_nested m_codeCount)), ((ad 1), .inl (cJ, 130, .inr (.inl m_now_9))), ((ad 3), .inl (cJ, 130, .inr (.inl m_snapshot)))] (some (.int (bI r9))) := by
  refine g_start (own := RX10) (by decide +kernel) rfl (Nat.le_of_ble_eq_true rfl) ?_
  intro p e s m below meth c A ls S hr hlocks hE hP hD hS hA hl hin
  have hx := S.1
  have hb := S.2.1
  have hml := S.2.2.1
  have hown := S.2.2.2.1
  have htg : ∀ z ∈ gw, z.before ([.ref (ad 0)] : List Value).toArray s = true := fun w h => S.2.2.2.2 w (List.mem_cons_of_mem _ h)
  have hl : lv_has ls 1 [(0, .ref (ad 0))] := hl
  have hS0 := hS
  obtain ⟨H, hH⟩ : ∃ H, H = s.heap := ⟨_, rfl⟩
  obtain ⟨locs, hlc⟩ : ∃ locs : List Loc, locs = [] := ⟨_, rfl⟩
  have hS : va_S A s.heap H locs := by rw [hH, hlc]; exact hS0
  have hP : va_P (dC, dI) vwCl [(ad 0, .inr (10, oM ad m_undoCount m_thrown m_hasSnapshot (ad 1) m_rows m_lineLength m_formattedLength m_bufferLength m_limit m_next m_beginsAt m_token m_error m_errorAt m_errorPosition m_nested m_codeCount)), ((ad 1), .inl (cJ, 130, .inr (.inl m_now))), ((ad 3), .inl (cJ, 130, .inr (.inl m_snapshot)))] H := by rw [hH]; exact hP
  suffices hgo : W p l e ({ frames := 1, cells := 0, slots := 0, locals := 24 }) s m ([.ref (ad 0)] : List Value).toArray below meth c H locs 0 0 (MQ below (gQ dC dI (some (.int (bI r9))) A [(ad 0, .inr (10, oM ad m_undoCount_9 m_thrown_9 m_hasSnapshot (ad 1) m_rows m_lineLength m_formattedLength m_bufferLength m_limit m_next m_beginsAt m_token m_error m_errorAt m_errorPosition m_nested m_codeCount)), ((ad 1), .inl (cJ, 130, .inr (.inl m_now_9))), ((ad 3), .inl (cJ, 130, .inr (.inl m_snapshot)))]) ([.ref (ad 0)] : List Value).toArray s 0 0 A) (F0 m 0 ls []) by rw [hH, hlc] at hgo; exact hgo
  rw [p10_restoreSnapshot] at hf
  refine lv_aload_n hx hb dX10_restoreSnapshot_0 rfl (lv_at hl 0 rfl) ?_
  refine lv_iconst (v := 0) hx hb dX10_restoreSnapshot_1 (by decide) ?_
  refine va_put (D := (dC, dI)) (ci := 10) (v := .int (0 : Int32)) (ty := .int) (C := RX10) (T := TX10) (N := 37) hx hb htg inX10 tyX10 tyX10_ok nmX10 hown hE.1 hP hD hS 0 rfl rfl 5 (by decide) (htg _ tw1387) (fun _ h9 => h9) rfl (by decide +kernel) rfl rfl (Nat.le_of_ble_eq_true rfl) dX10_restoreSnapshot_2 (fun H locs hP hD hS => ?_)
  have hP : va_P (dC, dI) vwCl [(ad 0, .inr (10, oM ad m_undoCount (0 : Int32) m_hasSnapshot (ad 1) m_rows m_lineLength m_formattedLength m_bufferLength m_limit m_next m_beginsAt m_token m_error m_errorAt m_errorPosition m_nested m_codeCount)), ((ad 1), .inl (cJ, 130, .inr (.inl m_now))), ((ad 3), .inl (cJ, 130, .inr (.inl m_snapshot)))] H := hP
  have hD : va_D A [(ad 0, .inr (10, oM ad m_undoCount (0 : Int32) m_hasSnapshot (ad 1) m_rows m_lineLength m_formattedLength m_bufferLength m_limit m_next m_beginsAt m_token m_error m_errorAt m_errorPosition m_nested m_codeCount)), ((ad 1), .inl (cJ, 130, .inr (.inl m_now))), ((ad 3), .inl (cJ, 130, .inr (.inl m_snapshot)))] := hD
  refine lv_aload_n hx hb dX10_restoreSnapshot_5 rfl (lv_at hl 0 rfl) ?_
  refine va_get (D := (dC, dI)) (ci := 10) (v := .int (bI m_hasSnapshot)) (C := RX10) (T := TX10) (N := 37) hx hb htg inX10 hown hE.1 hP 0 rfl rfl 6 (by decide) (htg _ tw1388) (fun _ h9 => h9) rfl dX10_restoreSnapshot_6 ?_
  refine lv_if_ne (tgt := 14) hx hb dX10_restoreSnapshot_9 (by decide) (fun h9 => ?_) (fun h9 => ?_)
  · have hf := ctt (bI_1 h9) hf
    refine lv_aload_n hx hb dX10_restoreSnapshot_14 rfl (lv_at hl 0 rfl) ?_
    refine va_get (D := (dC, dI)) (ci := 10) (v := .ref (ad 3)) (C := RX10) (T := TX10) (N := 37) hx hb htg inX10 hown hE.1 hP 0 rfl rfl 2 (by decide) (htg _ tw1384) (fun _ h9 => h9) rfl dX10_restoreSnapshot_15 ?_
    refine lv_iconst (v := 0) hx hb dX10_restoreSnapshot_18 (by decide) ?_
    refine lv_aload_n hx hb dX10_restoreSnapshot_19 rfl (lv_at hl 0 rfl) ?_
    refine va_get (D := (dC, dI)) (ci := 10) (v := .ref (ad 1)) (C := RX10) (T := TX10) (N := 37) hx hb htg inX10 hown hE.1 hP 0 rfl rfl 0 (by decide) (htg _ tw1382) (fun _ h9 => h9) rfl dX10_restoreSnapshot_20 ?_
    refine lv_iconst (v := 0) hx hb dX10_restoreSnapshot_23 (by decide) ?_
    obtain ⟨m_now_24, h9, hf⟩ := ob_s hf
    refine gcS (index := 357) S hE (c_X10_copy (ad 3) (ad 1) m_snapshot m_now 130 (Nat.le_of_ble_eq_true rfl) 130 (Nat.le_of_ble_eq_true rfl) (0 : Int32) (0 : Int32) m_now_24 h9) mX10_copy tw1850 ⟨Nat.le_of_ble_eq_true rfl, Nat.le_of_ble_eq_true rfl⟩ hP hD hS hA ⟨Nat.zero_le _, Nat.zero_le _⟩ (wr := [(ad 0, .inr (10, oM ad m_undoCount (0 : Int32) m_hasSnapshot (ad 1) m_rows m_lineLength m_formattedLength m_bufferLength m_limit m_next m_beginsAt m_token m_error m_errorAt m_errorPosition m_nested m_codeCount))]) [2, 1] [0] rfl rfl rfl rfl (by decide) (As := [.ref (ad 3), .int (0 : Int32), .ref (ad 1), .int (0 : Int32)]) (rest := []) rfl hl.1 rfl (Nat.le_of_ble_eq_true rfl) dX10_restoreSnapshot_24 (fun H locs hP hD hS => ?_)
    refine W.eq (g2 := F0 m 27 ls []) rfl ?_
    have hP : va_P (dC, dI) vwCl [(ad 0, .inr (10, oM ad m_undoCount (0 : Int32) m_hasSnapshot (ad 1) m_rows m_lineLength m_formattedLength m_bufferLength m_limit m_next m_beginsAt m_token m_error m_errorAt m_errorPosition m_nested m_codeCount)), ((ad 3), .inl (cJ, 130, .inr (.inl m_snapshot))), ((ad 1), .inl (cJ, 130, .inr (.inl m_now_24)))] H := hP
    have hD : va_D A [(ad 0, .inr (10, oM ad m_undoCount (0 : Int32) m_hasSnapshot (ad 1) m_rows m_lineLength m_formattedLength m_bufferLength m_limit m_next m_beginsAt m_token m_error m_errorAt m_errorPosition m_nested m_codeCount)), ((ad 3), .inl (cJ, 130, .inr (.inl m_snapshot))), ((ad 1), .inl (cJ, 130, .inr (.inl m_now_24)))] := hD
    refine lv_aload_n hx hb dX10_restoreSnapshot_27 rfl (lv_at hl 0 rfl) ?_
    refine lv_iconst (v := 0) hx hb dX10_restoreSnapshot_28 (by decide) ?_
    refine va_put (D := (dC, dI)) (ci := 10) (v := .int (0 : Int32)) (ty := .int) (C := RX10) (T := TX10) (N := 37) hx hb htg inX10 tyX10 tyX10_ok nmX10 hown hE.1 hP hD hS 0 rfl rfl 4 (by decide) (htg _ tw1386) (fun _ h9 => h9) rfl (by decide +kernel) rfl rfl (Nat.le_of_ble_eq_true rfl) dX10_restoreSnapshot_29 (fun H locs hP hD hS => ?_)
    have hP : va_P (dC, dI) vwCl [(ad 0, .inr (10, oM ad (0 : Int32) (0 : Int32) m_hasSnapshot (ad 1) m_rows m_lineLength m_formattedLength m_bufferLength m_limit m_next m_beginsAt m_token m_error m_errorAt m_errorPosition m_nested m_codeCount)), ((ad 3), .inl (cJ, 130, .inr (.inl m_snapshot))), ((ad 1), .inl (cJ, 130, .inr (.inl m_now_24)))] H := hP
    have hD : va_D A [(ad 0, .inr (10, oM ad (0 : Int32) (0 : Int32) m_hasSnapshot (ad 1) m_rows m_lineLength m_formattedLength m_bufferLength m_limit m_next m_beginsAt m_token m_error m_errorAt m_errorPosition m_nested m_codeCount)), ((ad 3), .inl (cJ, 130, .inr (.inl m_snapshot))), ((ad 1), .inl (cJ, 130, .inr (.inl m_now_24)))] := hD
    refine lv_iconst (v := 1) hx hb dX10_restoreSnapshot_32 (by decide) ?_
    cases hf
    exact g_zret S hr (nar_bI true) hlocks (hP.sub [0, 2, 1] rfl) (hD.sub [0, 2, 1] (by decide) rfl) hS dX10_restoreSnapshot_33
  · have hf := ctf (bI_0 h9) hf
    refine lv_iconst (v := 0) hx hb dX10_restoreSnapshot_12 (by decide) ?_
    cases hf
    exact g_zret S hr (nar_bI false) hlocks hP hD hS dX10_restoreSnapshot_13
set_option maxHeartbeats 4000000 in
set_option maxRecDepth 100000 in
theorem c_X10_feed (ad : Nat → Nat) (a_m_fam : Nat) (m_undoCount : Int32) (m_thrown : Int32) (m_hasSnapshot : Bool) (m_rows : Int32) (m_lineLength : Int32) (m_formattedLength : Int32) (m_bufferLength : Int32) (m_limit : Int32) (m_next : Int32) (m_beginsAt : Int32) (m_token : Int32) (m_error : Int32) (m_errorAt : Int32) (m_errorPosition : Int32) (m_nested : Int32) (m_codeCount : Int32) (m_buffer : Nat → Int32) (v1 : Int32) (v2 : Int32) (v3 : Int32) (v4 : Int32) (v5 : Int32) (r9 : Int32) (m_buffer_9 : Nat → Int32) (m_bufferLength_9 : Int32) (m_thrown_9 : Int32) (hf : p10_feed m_bufferLength m_buffer v1 v2 v3 v4 v5 = some (r9, m_buffer_9, m_bufferLength_9, m_thrown_9)) : gM l dC dI cI cJ cZ yX10_feed cX10_feed 8 (some .int) (0) (0) [.ref (ad 0), .int v1, .int v2, .int v3, .int v4, .int v5] [(ad 0, .inr (10, oM ad m_undoCount m_thrown m_hasSnapshot a_m_fam m_rows m_lineLength m_formattedLength m_bufferLength m_limit m_next m_beginsAt m_token m_error m_errorAt m_errorPosition m_nested m_codeCount)), ((ad 24), .inl (cI, 800, .inl m_buffer))] [(ad 0, .inr (10, oM ad m_undoCount m_thrown_9 m_hasSnapshot a_m_fam m_rows m_lineLength m_formattedLength m_bufferLength_9 m_limit m_next m_beginsAt m_token m_error m_errorAt m_errorPosition m_nested m_codeCount)), ((ad 24), .inl (cI, 800, .inl m_buffer_9))] (some (.int r9)) := by
  refine g_start (own := RX10) (by decide +kernel) rfl (Nat.le_of_ble_eq_true rfl) ?_
  intro p e s m below meth c A ls S hr hlocks hE hP hD hS hA hl hin
  have hx := S.1
  have hb := S.2.1
  have hml := S.2.2.1
  have hown := S.2.2.2.1
  have htg : ∀ z ∈ gw, z.before ([.ref (ad 0), .int v1, .int v2, .int v3, .int v4, .int v5] : List Value).toArray s = true := fun w h => S.2.2.2.2 w (List.mem_cons_of_mem _ h)
  have hl : lv_has ls 8 [(0, .ref (ad 0)), (1, .int v1), (2, .int v2), (3, .int v3), (4, .int v4), (5, .int v5)] := hl
  have hS0 := hS
  obtain ⟨H, hH⟩ : ∃ H, H = s.heap := ⟨_, rfl⟩
  obtain ⟨locs, hlc⟩ : ∃ locs : List Loc, locs = [] := ⟨_, rfl⟩
  have hS : va_S A s.heap H locs := by rw [hH, hlc]; exact hS0
  have hP : va_P (dC, dI) vwCl [(ad 0, .inr (10, oM ad m_undoCount m_thrown m_hasSnapshot a_m_fam m_rows m_lineLength m_formattedLength m_bufferLength m_limit m_next m_beginsAt m_token m_error m_errorAt m_errorPosition m_nested m_codeCount)), ((ad 24), .inl (cI, 800, .inl m_buffer))] H := by rw [hH]; exact hP
  suffices hgo : W p l e ({ frames := 0, cells := 0, slots := 0, locals := 0 }) s m ([.ref (ad 0), .int v1, .int v2, .int v3, .int v4, .int v5] : List Value).toArray below meth c H locs 0 0 (MQ below (gQ dC dI (some (.int r9)) A [(ad 0, .inr (10, oM ad m_undoCount m_thrown_9 m_hasSnapshot a_m_fam m_rows m_lineLength m_formattedLength m_bufferLength_9 m_limit m_next m_beginsAt m_token m_error m_errorAt m_errorPosition m_nested m_codeCount)), ((ad 24), .inl (cI, 800, .inl m_buffer_9))]) ([.ref (ad 0), .int v1, .int v2, .int v3, .int v4, .int v5] : List Value).toArray s 0 0 A) (F0 m 0 ls []) by rw [hH, hlc] at hgo; exact hgo
  rw [p10_feed] at hf
  have J120 : ∀ (m_thrown_120 : Int32) (m_bufferLength_120 : Int32) (m_buffer_120 : Nat → Int32) (H : Heap) (locs : List Loc) (ls : Array Slot), p10_feed_J120 m_thrown_120 m_bufferLength_120 m_buffer_120 = some (r9, m_buffer_9, m_bufferLength_9, m_thrown_9) → va_P (dC, dI) vwCl [(ad 0, .inr (10, oM ad m_undoCount m_thrown_120 m_hasSnapshot a_m_fam m_rows m_lineLength m_formattedLength m_bufferLength_120 m_limit m_next m_beginsAt m_token m_error m_errorAt m_errorPosition m_nested m_codeCount)), ((ad 24), .inl (cI, 800, .inl m_buffer_120))] H → va_D A [(ad 0, .inr (10, oM ad m_undoCount m_thrown_120 m_hasSnapshot a_m_fam m_rows m_lineLength m_formattedLength m_bufferLength_120 m_limit m_next m_beginsAt m_token m_error m_errorAt m_errorPosition m_nested m_codeCount)), ((ad 24), .inl (cI, 800, .inl m_buffer_120))] → va_S A s.heap H locs → lv_has ls 8 [(0, .ref (ad 0))] → W p l e ({ frames := 0, cells := 0, slots := 0, locals := 0 }) s m ([.ref (ad 0), .int v1, .int v2, .int v3, .int v4, .int v5] : List Value).toArray below meth c H locs 0 0 (MQ below (gQ dC dI (some (.int r9)) A [(ad 0, .inr (10, oM ad m_undoCount m_thrown_9 m_hasSnapshot a_m_fam m_rows m_lineLength m_formattedLength m_bufferLength_9 m_limit m_next m_beginsAt m_token m_error m_errorAt m_errorPosition m_nested m_codeCount)), ((ad 24), .inl (cI, 800, .inl m_buffer_9))]) ([.ref (ad 0), .int v1, .int v2, .int v3, .int v4, .int v5] : List Value).toArray s 0 0 A) (F0 m 120 ls []) := by
    intro m_thrown_120 m_bufferLength_120 m_buffer_120 H locs ls hf hP hD hS hl
    rw [p10_feed_J120] at hf
    refine lv_aload_n hx hb dX10_feed_120 rfl (lv_at hl 0 rfl) ?_
    refine va_get (D := (dC, dI)) (ci := 10) (v := .int m_bufferLength_120) (C := RX10) (T := TX10) (N := 37) hx hb htg inX10 hown hE.1 hP 0 rfl rfl 24 (by decide) (htg _ tw1406) (fun _ h9 => h9) rfl dX10_feed_121 ?_
    cases hf
    exact g_iret S hr hlocks hP hD hS dX10_feed_124
  refine lv_aload_n hx hb dX10_feed_0 rfl (lv_at hl 0 rfl) ?_
  refine lv_iconst (v := 0) hx hb dX10_feed_1 (by decide) ?_
  refine va_put (D := (dC, dI)) (ci := 10) (v := .int (0 : Int32)) (ty := .int) (C := RX10) (T := TX10) (N := 37) hx hb htg inX10 tyX10 tyX10_ok nmX10 hown hE.1 hP hD hS 0 rfl rfl 5 (by decide) (htg _ tw1387) (fun _ h9 => h9) rfl (by decide +kernel) rfl rfl (Nat.le_of_ble_eq_true rfl) dX10_feed_2 (fun H locs hP hD hS => ?_)
  have hP : va_P (dC, dI) vwCl [(ad 0, .inr (10, oM ad m_undoCount (0 : Int32) m_hasSnapshot a_m_fam m_rows m_lineLength m_formattedLength m_bufferLength m_limit m_next m_beginsAt m_token m_error m_errorAt m_errorPosition m_nested m_codeCount)), ((ad 24), .inl (cI, 800, .inl m_buffer))] H := hP
  have hD : va_D A [(ad 0, .inr (10, oM ad m_undoCount (0 : Int32) m_hasSnapshot a_m_fam m_rows m_lineLength m_formattedLength m_bufferLength m_limit m_next m_beginsAt m_token m_error m_errorAt m_errorPosition m_nested m_codeCount)), ((ad 24), .inl (cI, 800, .inl m_buffer))] := hD
  refine lv_aload_n hx hb dX10_feed_5 rfl (lv_at hl 0 rfl) ?_
  refine va_get (D := (dC, dI)) (ci := 10) (v := .int m_bufferLength) (C := RX10) (T := TX10) (N := 37) hx hb htg inX10 hown hE.1 hP 0 rfl rfl 24 (by decide) (htg _ tw1406) (fun _ h9 => h9) rfl dX10_feed_6 ?_
  refine lv_bipush (v := 20) hx hb dX10_feed_9 (by decide) ?_
  refine lv_iadd hx hb dX10_feed_11 ?_
  refine lv_sipush (v := 800) hx hb dX10_feed_12 (by decide) ?_
  refine lv_icmp_le (tgt := 20) hx hb dX10_feed_15 (by decide) (fun h9 => ?_) (fun h9 => ?_)
  · have hf := itt h9 hf
    refine lv_iconst (v := 0) hx hb dX10_feed_20 (by decide) ?_
    refine lv_istore (lv' := [(6, .int (0 : Int32)), (0, .ref (ad 0)), (1, .int v1), (2, .int v2), (3, .int v3), (4, .int v4), (5, .int v5)]) hx hb dX10_feed_21 hl (by decide) rfl (fun ls hl => ?_)
    have K23 : ∀ (n23 : Nat) (v6_23 : Int32) (m_buffer_23 : Nat → Int32) (m_bufferLength_23 : Int32) (ex23 : (Nat → Int32) × Int32) (H : Heap) (locs : List Loc) (ls : Array Slot), p10_feed_L23 v1 v2 v3 v4 v5 n23 v6_23 m_buffer_23 m_bufferLength_23 = some ex23 → (uc2 fun m_buffer_x23 m_bufferLength_x23 => p10_feed_J120 (0 : Int32) m_bufferLength_x23 m_buffer_x23) ex23 = some (r9, m_buffer_9, m_bufferLength_9, m_thrown_9) → va_P (dC, dI) vwCl [(ad 0, .inr (10, oM ad m_undoCount (0 : Int32) m_hasSnapshot a_m_fam m_rows m_lineLength m_formattedLength m_bufferLength_23 m_limit m_next m_beginsAt m_token m_error m_errorAt m_errorPosition m_nested m_codeCount)), ((ad 24), .inl (cI, 800, .inl m_buffer_23))] H → va_D A [(ad 0, .inr (10, oM ad m_undoCount (0 : Int32) m_hasSnapshot a_m_fam m_rows m_lineLength m_formattedLength m_bufferLength_23 m_limit m_next m_beginsAt m_token m_error m_errorAt m_errorPosition m_nested m_codeCount)), ((ad 24), .inl (cI, 800, .inl m_buffer_23))] → va_S A s.heap H locs → lv_has ls 8 [(0, .ref (ad 0)), (1, .int v1), (2, .int v2), (3, .int v3), (4, .int v4), (5, .int v5), (6, .int v6_23)] → W p l e ({ frames := 0, cells := 0, slots := 0, locals := 0 }) s m ([.ref (ad 0), .int v1, .int v2, .int v3, .int v4, .int v5] : List Value).toArray below meth c H locs 0 0 (MQ below (gQ dC dI (some (.int r9)) A [(ad 0, .inr (10, oM ad m_undoCount m_thrown_9 m_hasSnapshot a_m_fam m_rows m_lineLength m_formattedLength m_bufferLength_9 m_limit m_next m_beginsAt m_token m_error m_errorAt m_errorPosition m_nested m_codeCount)), ((ad 24), .inl (cI, 800, .inl m_buffer_9))]) ([.ref (ad 0), .int v1, .int v2, .int v3, .int v4, .int v5] : List Value).toArray s 0 0 A) (F0 m 23 ls []) := by
      intro n23
      induction n23 with
      | zero => intro v6_23 m_buffer_23 m_bufferLength_23 ex23 H locs ls hf; rw [p10_feed_L23] at hf; cases hf
      | succ n23 ih23 =>
        intro v6_23 m_buffer_23 m_bufferLength_23 ex23 H locs ls hf hk23 hP hD hS hl
        rw [p10_feed_L23, p10_feed_L23_B] at hf
        have J78 : ∀ (v7_78 : Int32) (H : Heap) (locs : List Loc) (ls : Array Slot), p10_feed_J78 (p10_feed_L23 v1 v2 v3 v4 v5 n23) m_bufferLength_23 m_buffer_23 v6_23 v7_78 = some ex23 → va_P (dC, dI) vwCl [(ad 0, .inr (10, oM ad m_undoCount (0 : Int32) m_hasSnapshot a_m_fam m_rows m_lineLength m_formattedLength m_bufferLength_23 m_limit m_next m_beginsAt m_token m_error m_errorAt m_errorPosition m_nested m_codeCount)), ((ad 24), .inl (cI, 800, .inl m_buffer_23))] H → va_D A [(ad 0, .inr (10, oM ad m_undoCount (0 : Int32) m_hasSnapshot a_m_fam m_rows m_lineLength m_formattedLength m_bufferLength_23 m_limit m_next m_beginsAt m_token m_error m_errorAt m_errorPosition m_nested m_codeCount)), ((ad 24), .inl (cI, 800, .inl m_buffer_23))] → va_S A s.heap H locs → lv_has ls 8 [(0, .ref (ad 0)), (1, .int v1), (2, .int v2), (3, .int v3), (4, .int v4), (5, .int v5), (6, .int v6_23), (7, .int v7_78)] → W p l e ({ frames := 0, cells := 0, slots := 0, locals := 0 }) s m ([.ref (ad 0), .int v1, .int v2, .int v3, .int v4, .int v5] : List Value).toArray below meth c H locs 0 0 (MQ below (gQ dC dI (some (.int r9)) A [(ad 0, .inr (10, oM ad m_undoCount m_thrown_9 m_hasSnapshot a_m_fam m_rows m_lineLength m_formattedLength m_bufferLength_9 m_limit m_next m_beginsAt m_token m_error m_errorAt m_errorPosition m_nested m_codeCount)), ((ad 24), .inl (cI, 800, .inl m_buffer_9))]) ([.ref (ad 0), .int v1, .int v2, .int v3, .int v4, .int v5] : List Value).toArray s 0 0 A) (F0 m 78 ls []) := by
          intro v7_78 H locs ls hf hP hD hS hl
          rw [p10_feed_J78] at hf
          refine lv_aload_n hx hb dX10_feed_78 rfl (lv_at hl 0 rfl) ?_
          refine va_get (D := (dC, dI)) (ci := 10) (v := .ref (ad 24)) (C := RX10) (T := TX10) (N := 37) hx hb htg inX10 hown hE.1 hP 0 rfl rfl 23 (by decide) (htg _ tw1405) (fun _ h9 => h9) rfl dX10_feed_79 ?_
          refine lv_aload_n hx hb dX10_feed_82 rfl (lv_at hl 0 rfl) ?_
          refine va_get (D := (dC, dI)) (ci := 10) (v := .int m_bufferLength_23) (C := RX10) (T := TX10) (N := 37) hx hb htg inX10 hown hE.1 hP 0 rfl rfl 24 (by decide) (htg _ tw1406) (fun _ h9 => h9) rfl dX10_feed_83 ?_
          refine lv_iload hx hb dX10_feed_86 (lv_at hl 7 rfl) ?_
          refine lv_bipush (v := 24) hx hb dX10_feed_88 (by decide) ?_
          refine lv_bipush (v := 8) hx hb dX10_feed_90 (by decide) ?_
          refine lv_iload hx hb dX10_feed_92 (lv_at hl 6 rfl) ?_
          refine lv_iconst (v := 4) hx hb dX10_feed_94 (by decide) ?_
          refine lv_irem hx hb dX10_feed_95 (by decide) ?_
          refine lv_imul hx hb dX10_feed_96 ?_
          refine lv_isub hx hb dX10_feed_97 ?_
          refine lv_ishr hx hb dX10_feed_98 ?_
          refine lv_sipush (v := 255) hx hb dX10_feed_99 (by decide) ?_
          refine lv_iand hx hb dX10_feed_102 ?_
          obtain ⟨h9, hf⟩ := gd_s hf
          refine va_iast hx hb hE.1 hP hD hS 1 0 rfl rfl h9 dX10_feed_103 (fun H locs hP hD hS => ?_)
          obtain ⟨g103, h9⟩ : ∃ z, z = (upd m_buffer_23 m_bufferLength_23.toNatClampNeg ((v7_78 >>> (((24 : Int32) - ((8 : Int32) * (v6_23 - v6_23 / (4 : Int32) * (4 : Int32)))) &&& 31)) &&& (255 : Int32))) := ⟨_, rfl⟩
          have hf := lb_e h9 hf
          have hP : va_P (dC, dI) vwCl [(ad 0, .inr (10, oM ad m_undoCount (0 : Int32) m_hasSnapshot a_m_fam m_rows m_lineLength m_formattedLength m_bufferLength_23 m_limit m_next m_beginsAt m_token m_error m_errorAt m_errorPosition m_nested m_codeCount)), ((ad 24), .inl (cI, 800, .inl g103))] H := by rw [h9]; exact hP
          have hD : va_D A [(ad 0, .inr (10, oM ad m_undoCount (0 : Int32) m_hasSnapshot a_m_fam m_rows m_lineLength m_formattedLength m_bufferLength_23 m_limit m_next m_beginsAt m_token m_error m_errorAt m_errorPosition m_nested m_codeCount)), ((ad 24), .inl (cI, 800, .inl g103))] := by rw [h9]; exact hD
          refine lv_aload_n hx hb dX10_feed_104 rfl (lv_at hl 0 rfl) ?_
          refine lv_dup hx hb dX10_feed_105 rfl ?_
          refine va_get (D := (dC, dI)) (ci := 10) (v := .int m_bufferLength_23) (C := RX10) (T := TX10) (N := 37) hx hb htg inX10 hown hE.1 hP 0 rfl rfl 24 (by decide) (htg _ tw1406) (fun _ h9 => h9) rfl dX10_feed_106 ?_
          refine lv_iconst (v := 1) hx hb dX10_feed_109 (by decide) ?_
          refine lv_iadd hx hb dX10_feed_110 ?_
          refine lv_topi (fun t111 h9 => ?_)
          have hf := lb_e h9 hf
          refine va_put (D := (dC, dI)) (ci := 10) (v := .int t111) (ty := .int) (C := RX10) (T := TX10) (N := 37) hx hb htg inX10 tyX10 tyX10_ok nmX10 hown hE.1 hP hD hS 0 rfl rfl 24 (by decide) (htg _ tw1406) (fun _ h9 => h9) rfl (by decide +kernel) rfl rfl (Nat.le_of_ble_eq_true rfl) dX10_feed_111 (fun H locs hP hD hS => ?_)
          have hP : va_P (dC, dI) vwCl [(ad 0, .inr (10, oM ad m_undoCount (0 : Int32) m_hasSnapshot a_m_fam m_rows m_lineLength m_formattedLength t111 m_limit m_next m_beginsAt m_token m_error m_errorAt m_errorPosition m_nested m_codeCount)), ((ad 24), .inl (cI, 800, .inl g103))] H := hP
          have hD : va_D A [(ad 0, .inr (10, oM ad m_undoCount (0 : Int32) m_hasSnapshot a_m_fam m_rows m_lineLength m_formattedLength t111 m_limit m_next m_beginsAt m_token m_error m_errorAt m_errorPosition m_nested m_codeCount)), ((ad 24), .inl (cI, 800, .inl g103))] := hD
          obtain ⟨t114, h9⟩ : ∃ z : Int32, z = (v6_23 + (1 : Int32)) := ⟨_, rfl⟩
          have hf := lb_e h9 hf
          refine lv_iinc (v := t114) (lv' := [(6, .int t114), (0, .ref (ad 0)), (1, .int v1), (2, .int v2), (3, .int v3), (4, .int v4), (5, .int v5), (7, .int v7_78)]) hx hb dX10_feed_114 hl (k := 6) rfl (by rw [h9]; rfl) (by decide) rfl (fun ls hl => ?_)
          refine lv_goto (tgt := 23) hx hb dX10_feed_117 (by decide) ?_
          exact ih23 t114 g103 t111 ex23 H locs ls hf hk23 hP hD hS (lv_sub hl [1, 2, 3, 4, 5, 6, 0] rfl)
        refine lv_iload hx hb dX10_feed_23 (lv_at hl 6 rfl) ?_
        refine lv_bipush (v := 20) hx hb dX10_feed_25 (by decide) ?_
        refine lv_icmp_ge (tgt := 120) hx hb dX10_feed_27 (by decide) (fun h9 => ?_) (fun h9 => ?_)
        · have hf := itt h9 hf
          cases hf
          have hf := hk23
          have hf := uc2_e hf
          exact J120 (0 : Int32) m_bufferLength_23 m_buffer_23 H locs ls hf hP hD hS (lv_sub hl [0] rfl)
        · have hf := itf h9 hf
          refine lv_iload hx hb dX10_feed_30 (lv_at hl 6 rfl) ?_
          refine lv_iconst (v := 4) hx hb dX10_feed_32 (by decide) ?_
          refine lv_icmp_ge (tgt := 40) hx hb dX10_feed_33 (by decide) (fun h9 => ?_) (fun h9 => ?_)
          · have hf := itt h9 hf
            refine lv_iload hx hb dX10_feed_40 (lv_at hl 6 rfl) ?_
            refine lv_bipush (v := 8) hx hb dX10_feed_42 (by decide) ?_
            refine lv_icmp_ge (tgt := 51) hx hb dX10_feed_44 (by decide) (fun h9 => ?_) (fun h9 => ?_)
            · have hf := itt h9 hf
              refine lv_iload hx hb dX10_feed_51 (lv_at hl 6 rfl) ?_
              refine lv_bipush (v := 12) hx hb dX10_feed_53 (by decide) ?_
              refine lv_icmp_ge (tgt := 62) hx hb dX10_feed_55 (by decide) (fun h9 => ?_) (fun h9 => ?_)
              · have hf := itt h9 hf
                refine lv_iload hx hb dX10_feed_62 (lv_at hl 6 rfl) ?_
                refine lv_bipush (v := 16) hx hb dX10_feed_64 (by decide) ?_
                refine lv_icmp_ge (tgt := 74) hx hb dX10_feed_66 (by decide) (fun h9 => ?_) (fun h9 => ?_)
                · have hf := itt h9 hf
                  refine lv_iload hx hb dX10_feed_74 (lv_at hl 5 rfl) ?_
                  refine lv_istore (lv' := [(7, .int v5), (0, .ref (ad 0)), (1, .int v1), (2, .int v2), (3, .int v3), (4, .int v4), (5, .int v5), (6, .int v6_23)]) hx hb dX10_feed_76 hl (by decide) rfl (fun ls hl => ?_)
                  exact J78 v5 H locs ls hf hP hD hS (lv_sub hl [1, 2, 3, 4, 5, 6, 7, 0] rfl)
                · have hf := itf h9 hf
                  refine lv_iload hx hb dX10_feed_69 (lv_at hl 4 rfl) ?_
                  refine lv_goto (tgt := 76) hx hb dX10_feed_71 (by decide) ?_
                  refine lv_istore (lv' := [(7, .int v4), (0, .ref (ad 0)), (1, .int v1), (2, .int v2), (3, .int v3), (4, .int v4), (5, .int v5), (6, .int v6_23)]) hx hb dX10_feed_76 hl (by decide) rfl (fun ls hl => ?_)
                  exact J78 v4 H locs ls hf hP hD hS (lv_sub hl [1, 2, 3, 4, 5, 6, 7, 0] rfl)
              · have hf := itf h9 hf
                refine lv_iload_n hx hb dX10_feed_58 rfl (lv_at hl 3 rfl) ?_
                refine lv_goto (tgt := 76) hx hb dX10_feed_59 (by decide) ?_
                refine lv_istore (lv' := [(7, .int v3), (0, .ref (ad 0)), (1, .int v1), (2, .int v2), (3, .int v3), (4, .int v4), (5, .int v5), (6, .int v6_23)]) hx hb dX10_feed_76 hl (by decide) rfl (fun ls hl => ?_)
                exact J78 v3 H locs ls hf hP hD hS (lv_sub hl [1, 2, 3, 4, 5, 6, 7, 0] rfl)
            · have hf := itf h9 hf
              refine lv_iload_n hx hb dX10_feed_47 rfl (lv_at hl 2 rfl) ?_
              refine lv_goto (tgt := 76) hx hb dX10_feed_48 (by decide) ?_
              refine lv_istore (lv' := [(7, .int v2), (0, .ref (ad 0)), (1, .int v1), (2, .int v2), (3, .int v3), (4, .int v4), (5, .int v5), (6, .int v6_23)]) hx hb dX10_feed_76 hl (by decide) rfl (fun ls hl => ?_)
              exact J78 v2 H locs ls hf hP hD hS (lv_sub hl [1, 2, 3, 4, 5, 6, 7, 0] rfl)
          · have hf := itf h9 hf
            refine lv_iload_n hx hb dX10_feed_36 rfl (lv_at hl 1 rfl) ?_
            refine lv_goto (tgt := 76) hx hb dX10_feed_37 (by decide) ?_
            refine lv_istore (lv' := [(7, .int v1), (0, .ref (ad 0)), (1, .int v1), (2, .int v2), (3, .int v3), (4, .int v4), (5, .int v5), (6, .int v6_23)]) hx hb dX10_feed_76 hl (by decide) rfl (fun ls hl => ?_)
            exact J78 v1 H locs ls hf hP hD hS (lv_sub hl [1, 2, 3, 4, 5, 6, 7, 0] rfl)
    obtain ⟨ex, h9, hf⟩ := ob_s hf
    exact K23 FU (0 : Int32) m_buffer m_bufferLength ex H locs ls h9 hf hP hD hS (lv_sub hl [1, 2, 3, 4, 5, 6, 0] rfl)
  · have hf := itf h9 hf
    refine lv_iconst (v := -1) hx hb dX10_feed_18 (by decide) ?_
    cases hf
    exact g_iret S hr hlocks hP hD hS dX10_feed_19
set_option maxHeartbeats 4000000 in
set_option maxRecDepth 100000 in
theorem c_X10_errorPosition (ad : Nat → Nat) (a_m_fam : Nat) (m_undoCount : Int32) (m_thrown : Int32) (m_hasSnapshot : Bool) (m_rows : Int32) (m_lineLength : Int32) (m_formattedLength : Int32) (m_bufferLength : Int32) (m_limit : Int32) (m_next : Int32) (m_beginsAt : Int32) (m_token : Int32) (m_error : Int32) (m_errorAt : Int32) (m_errorPosition : Int32) (m_nested : Int32) (m_codeCount : Int32) (r9 : Int32) (m_thrown_9 : Int32) (hf : p10_errorPosition m_errorPosition = (r9, m_thrown_9)) : gM l dC dI cI cJ cZ yX10_errorPosition cX10_errorPosition 1 (some .int) (0) (0) [.ref (ad 0)] [(ad 0, .inr (10, oM ad m_undoCount m_thrown m_hasSnapshot a_m_fam m_rows m_lineLength m_formattedLength m_bufferLength m_limit m_next m_beginsAt m_token m_error m_errorAt m_errorPosition m_nested m_codeCount))] [(ad 0, .inr (10, oM ad m_undoCount m_thrown_9 m_hasSnapshot a_m_fam m_rows m_lineLength m_formattedLength m_bufferLength m_limit m_next m_beginsAt m_token m_error m_errorAt m_errorPosition m_nested m_codeCount))] (some (.int r9)) := by
  refine g_start (own := RX10) (by decide +kernel) rfl (Nat.le_of_ble_eq_true rfl) ?_
  intro p e s m below meth c A ls S hr hlocks hE hP hD hS hA hl hin
  have hx := S.1
  have hb := S.2.1
  have hml := S.2.2.1
  have hown := S.2.2.2.1
  have htg : ∀ z ∈ gw, z.before ([.ref (ad 0)] : List Value).toArray s = true := fun w h => S.2.2.2.2 w (List.mem_cons_of_mem _ h)
  have hl : lv_has ls 1 [(0, .ref (ad 0))] := hl
  have hS0 := hS
  obtain ⟨H, hH⟩ : ∃ H, H = s.heap := ⟨_, rfl⟩
  obtain ⟨locs, hlc⟩ : ∃ locs : List Loc, locs = [] := ⟨_, rfl⟩
  have hS : va_S A s.heap H locs := by rw [hH, hlc]; exact hS0
  have hP : va_P (dC, dI) vwCl [(ad 0, .inr (10, oM ad m_undoCount m_thrown m_hasSnapshot a_m_fam m_rows m_lineLength m_formattedLength m_bufferLength m_limit m_next m_beginsAt m_token m_error m_errorAt m_errorPosition m_nested m_codeCount))] H := by rw [hH]; exact hP
  suffices hgo : W p l e ({ frames := 0, cells := 0, slots := 0, locals := 0 }) s m ([.ref (ad 0)] : List Value).toArray below meth c H locs 0 0 (MQ below (gQ dC dI (some (.int r9)) A [(ad 0, .inr (10, oM ad m_undoCount m_thrown_9 m_hasSnapshot a_m_fam m_rows m_lineLength m_formattedLength m_bufferLength m_limit m_next m_beginsAt m_token m_error m_errorAt m_errorPosition m_nested m_codeCount))]) ([.ref (ad 0)] : List Value).toArray s 0 0 A) (F0 m 0 ls []) by rw [hH, hlc] at hgo; exact hgo
  rw [p10_errorPosition] at hf
  refine lv_aload_n hx hb dX10_errorPosition_0 rfl (lv_at hl 0 rfl) ?_
  refine lv_iconst (v := 0) hx hb dX10_errorPosition_1 (by decide) ?_
  refine va_put (D := (dC, dI)) (ci := 10) (v := .int (0 : Int32)) (ty := .int) (C := RX10) (T := TX10) (N := 37) hx hb htg inX10 tyX10 tyX10_ok nmX10 hown hE.1 hP hD hS 0 rfl rfl 5 (by decide) (htg _ tw1387) (fun _ h9 => h9) rfl (by decide +kernel) rfl rfl (Nat.le_of_ble_eq_true rfl) dX10_errorPosition_2 (fun H locs hP hD hS => ?_)
  have hP : va_P (dC, dI) vwCl [(ad 0, .inr (10, oM ad m_undoCount (0 : Int32) m_hasSnapshot a_m_fam m_rows m_lineLength m_formattedLength m_bufferLength m_limit m_next m_beginsAt m_token m_error m_errorAt m_errorPosition m_nested m_codeCount))] H := hP
  have hD : va_D A [(ad 0, .inr (10, oM ad m_undoCount (0 : Int32) m_hasSnapshot a_m_fam m_rows m_lineLength m_formattedLength m_bufferLength m_limit m_next m_beginsAt m_token m_error m_errorAt m_errorPosition m_nested m_codeCount))] := hD
  refine lv_aload_n hx hb dX10_errorPosition_5 rfl (lv_at hl 0 rfl) ?_
  refine va_get (D := (dC, dI)) (ci := 10) (v := .int m_errorPosition) (C := RX10) (T := TX10) (N := 37) hx hb htg inX10 hown hE.1 hP 0 rfl rfl 31 (by decide) (htg _ tw1413) (fun _ h9 => h9) rfl dX10_errorPosition_6 ?_
  cases hf
  exact g_iret S hr hlocks hP hD hS dX10_errorPosition_9
end G_31_FamilyChartModel02
