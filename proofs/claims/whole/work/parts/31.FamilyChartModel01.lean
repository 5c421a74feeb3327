section G_31_FamilyChartModel01
variable {l : Launch} {dC : Nat → ClassId} {dI : Nat → Nat → Nat} {cI cJ cZ : ClassId} {adK adV : Nat → Nat}
set_option maxHeartbeats 4000000 in
set_option maxRecDepth 100000 in
theorem c_X10_crossingsBelow (ad : Nat → Nat) (a_m_fam : Nat) (m_undoCount : Int32) (m_thrown : Int32) (m_hasSnapshot : Bool) (m_rows : Int32) (m_lineLength : Int32) (m_formattedLength : Int32) (m_bufferLength : Int32) (m_limit : Int32) (m_next : Int32) (m_beginsAt : Int32) (m_token : Int32) (m_error : Int32) (m_errorAt : Int32) (m_errorPosition : Int32) (m_nested : Int32) (m_codeCount : Int32) (m_fam : Nat → Int64) (m_generation : Nat → Int32) (m_level : Nat → Int32) (v1 : Int32) (r9 : Int32) (hf : p10_crossingsBelow m_fam m_generation m_level v1 = some r9) : gM l dC dI cI cJ cZ yX10_crossingsBelow cX10_crossingsBelow 7 (some .int) (3) (66) [.ref (ad 0), .int v1] [(ad 0, .inr (10, oM ad m_undoCount m_thrown m_hasSnapshot a_m_fam m_rows m_lineLength m_formattedLength m_bufferLength m_limit m_next m_beginsAt m_token m_error m_errorAt m_errorPosition m_nested m_codeCount)), (a_m_fam, .inl (cJ, 130, .inr (.inl m_fam))), ((ad 9), .inl (cI, 16, .inl m_generation)), ((ad 10), .inl (cI, 12, .inl m_level))] [(ad 0, .inr (10, oM ad m_undoCount m_thrown m_hasSnapshot a_m_fam m_rows m_lineLength m_formattedLength m_bufferLength m_limit m_next m_beginsAt m_token m_error m_errorAt m_errorPosition m_nested m_codeCount)), (a_m_fam, .inl (cJ, 130, .inr (.inl m_fam))), ((ad 9), .inl (cI, 16, .inl m_generation)), ((ad 10), .inl (cI, 12, .inl m_level))] (some (.int r9)) := by
  refine g_start (own := RX10) (by decide +kernel) rfl (Nat.le_of_ble_eq_true rfl) ?_
  intro p e s m below meth c A ls S hr hlocks hE hP hD hS hA hl hin
  have hx := S.1
  have hb := S.2.1
  have hml := S.2.2.1
  have hown := S.2.2.2.1
  have htg : ∀ z ∈ gw, z.before ([.ref (ad 0), .int v1] : List Value).toArray s = true := fun w h => S.2.2.2.2 w (List.mem_cons_of_mem _ h)
  have hl : lv_has ls 7 [(0, .ref (ad 0)), (1, .int v1)] := hl
  have hS0 := hS
  obtain ⟨H, hH⟩ : ∃ H, H = s.heap := ⟨_, rfl⟩
  obtain ⟨locs, hlc⟩ : ∃ locs : List Loc, locs = [] := ⟨_, rfl⟩
  have hS : va_S A s.heap H locs := by rw [hH, hlc]; exact hS0
  have hP : va_P (dC, dI) vwCl [(ad 0, .inr (10, oM ad m_undoCount m_thrown m_hasSnapshot a_m_fam m_rows m_lineLength m_formattedLength m_bufferLength m_limit m_next m_beginsAt m_token m_error m_errorAt m_errorPosition m_nested m_codeCount)), (a_m_fam, .inl (cJ, 130, .inr (.inl m_fam))), ((ad 9), .inl (cI, 16, .inl m_generation)), ((ad 10), .inl (cI, 12, .inl m_level))] H := by rw [hH]; exact hP
  suffices hgo : W p l e ({ frames := 3, cells := 0, slots := 0, locals := 66 }) s m ([.ref (ad 0), .int v1] : List Value).toArray below meth c H locs 0 0 (MQ below (gQ dC dI (some (.int r9)) A [(ad 0, .inr (10, oM ad m_undoCount m_thrown m_hasSnapshot a_m_fam m_rows m_lineLength m_formattedLength m_bufferLength m_limit m_next m_beginsAt m_token m_error m_errorAt m_errorPosition m_nested m_codeCount)), (a_m_fam, .inl (cJ, 130, .inr (.inl m_fam))), ((ad 9), .inl (cI, 16, .inl m_generation)), ((ad 10), .inl (cI, 12, .inl m_level))]) ([.ref (ad 0), .int v1] : List Value).toArray s 0 0 A) (F0 m 0 ls []) by rw [hH, hlc] at hgo; exact hgo
  rw [p10_crossingsBelow] at hf
  have J133 : ∀ (v2_133 : Int32) (H : Heap) (locs : List Loc) (ls : Array Slot), p10_crossingsBelow_J133 v2_133 = some r9 → va_P (dC, dI) vwCl [(ad 0, .inr (10, oM ad m_undoCount m_thrown m_hasSnapshot a_m_fam m_rows m_lineLength m_formattedLength m_bufferLength m_limit m_next m_beginsAt m_token m_error m_errorAt m_errorPosition m_nested m_codeCount)), (a_m_fam, .inl (cJ, 130, .inr (.inl m_fam))), ((ad 9), .inl (cI, 16, .inl m_generation)), ((ad 10), .inl (cI, 12, .inl m_level))] H → va_D A [(ad 0, .inr (10, oM ad m_undoCount m_thrown m_hasSnapshot a_m_fam m_rows m_lineLength m_formattedLength m_bufferLength m_limit m_next m_beginsAt m_token m_error m_errorAt m_errorPosition m_nested m_codeCount)), (a_m_fam, .inl (cJ, 130, .inr (.inl m_fam))), ((ad 9), .inl (cI, 16, .inl m_generation)), ((ad 10), .inl (cI, 12, .inl m_level))] → va_S A s.heap H locs → lv_has ls 7 [(2, .int v2_133)] → W p l e ({ frames := 3, cells := 0, slots := 0, locals := 66 }) s m ([.ref (ad 0), .int v1] : List Value).toArray below meth c H locs 0 0 (MQ below (gQ dC dI (some (.int r9)) A [(ad 0, .inr (10, oM ad m_undoCount m_thrown m_hasSnapshot a_m_fam m_rows m_lineLength m_formattedLength m_bufferLength m_limit m_next m_beginsAt m_token m_error m_errorAt m_errorPosition m_nested m_codeCount)), (a_m_fam, .inl (cJ, 130, .inr (.inl m_fam))), ((ad 9), .inl (cI, 16, .inl m_generation)), ((ad 10), .inl (cI, 12, .inl m_level))]) ([.ref (ad 0), .int v1] : List Value).toArray s 0 0 A) (F0 m 133 ls []) := by
    intro v2_133 H locs ls hf hP hD hS hl
    rw [p10_crossingsBelow_J133] at hf
    refine lv_iload_n hx hb dX10_crossingsBelow_133 rfl (lv_at hl 0 rfl) ?_
    cases hf
    exact g_iret S hr hlocks hP hD hS dX10_crossingsBelow_134
  refine lv_iconst (v := 0) hx hb dX10_crossingsBelow_0 (by decide) ?_
  refine lv_istore_n (lv' := [(2, .int (0 : Int32)), (0, .ref (ad 0)), (1, .int v1)]) hx hb dX10_crossingsBelow_1 rfl hl (by decide) rfl (fun ls hl => ?_)
  refine lv_iconst (v := 0) hx hb dX10_crossingsBelow_2 (by decide) ?_
  refine lv_istore_n (lv' := [(3, .int (0 : Int32)), (2, .int (0 : Int32)), (0, .ref (ad 0)), (1, .int v1)]) hx hb dX10_crossingsBelow_3 rfl hl (by decide) rfl (fun ls hl => ?_)
  have K4 : ∀ (n4 : Nat) (v2_4 : Int32) (v3_4 : Int32) (ex4 : Int32) (H : Heap) (locs : List Loc) (ls : Array Slot), p10_crossingsBelow_L4 m_fam m_generation m_level v1 n4 v2_4 v3_4 = some ex4 → (fun v2_x4 => p10_crossingsBelow_J133 v2_x4) ex4 = some r9 → va_P (dC, dI) vwCl [(ad 0, .inr (10, oM ad m_undoCount m_thrown m_hasSnapshot a_m_fam m_rows m_lineLength m_formattedLength m_bufferLength m_limit m_next m_beginsAt m_token m_error m_errorAt m_errorPosition m_nested m_codeCount)), (a_m_fam, .inl (cJ, 130, .inr (.inl m_fam))), ((ad 9), .inl (cI, 16, .inl m_generation)), ((ad 10), .inl (cI, 12, .inl m_level))] H → va_D A [(ad 0, .inr (10, oM ad m_undoCount m_thrown m_hasSnapshot a_m_fam m_rows m_lineLength m_formattedLength m_bufferLength m_limit m_next m_beginsAt m_token m_error m_errorAt m_errorPosition m_nested m_codeCount)), (a_m_fam, .inl (cJ, 130, .inr (.inl m_fam))), ((ad 9), .inl (cI, 16, .inl m_generation)), ((ad 10), .inl (cI, 12, .inl m_level))] → va_S A s.heap H locs → lv_has ls 7 [(0, .ref (ad 0)), (1, .int v1), (2, .int v2_4), (3, .int v3_4)] → W p l e ({ frames := 3, cells := 0, slots := 0, locals := 66 }) s m ([.ref (ad 0), .int v1] : List Value).toArray below meth c H locs 0 0 (MQ below (gQ dC dI (some (.int r9)) A [(ad 0, .inr (10, oM ad m_undoCount m_thrown m_hasSnapshot a_m_fam m_rows m_lineLength m_formattedLength m_bufferLength m_limit m_next m_beginsAt m_token m_error m_errorAt m_errorPosition m_nested m_codeCount)), (a_m_fam, .inl (cJ, 130, .inr (.inl m_fam))), ((ad 9), .inl (cI, 16, .inl m_generation)), ((ad 10), .inl (cI, 12, .inl m_level))]) ([.ref (ad 0), .int v1] : List Value).toArray s 0 0 A) (F0 m 4 ls []) := by
    intro n4
    induction n4 with
    | zero => intro v2_4 v3_4 ex4 H locs ls hf; rw [p10_crossingsBelow_L4] at hf; cases hf
    | succ n4 ih4 =>
      intro v2_4 v3_4 ex4 H locs ls hf hk4 hP hD hS hl
      rw [p10_crossingsBelow_L4, p10_crossingsBelow_L4_B] at hf
      have J127 : ∀ (v2_127 : Int32) (H : Heap) (locs : List Loc) (ls : Array Slot), p10_crossingsBelow_J127 (p10_crossingsBelow_L4 m_fam m_generation m_level v1 n4) v3_4 v2_127 = some ex4 → va_P (dC, dI) vwCl [(ad 0, .inr (10, oM ad m_undoCount m_thrown m_hasSnapshot a_m_fam m_rows m_lineLength m_formattedLength m_bufferLength m_limit m_next m_beginsAt m_token m_error m_errorAt m_errorPosition m_nested m_codeCount)), (a_m_fam, .inl (cJ, 130, .inr (.inl m_fam))), ((ad 9), .inl (cI, 16, .inl m_generation)), ((ad 10), .inl (cI, 12, .inl m_level))] H → va_D A [(ad 0, .inr (10, oM ad m_undoCount m_thrown m_hasSnapshot a_m_fam m_rows m_lineLength m_formattedLength m_bufferLength m_limit m_next m_beginsAt m_token m_error m_errorAt m_errorPosition m_nested m_codeCount)), (a_m_fam, .inl (cJ, 130, .inr (.inl m_fam))), ((ad 9), .inl (cI, 16, .inl m_generation)), ((ad 10), .inl (cI, 12, .inl m_level))] → va_S A s.heap H locs → lv_has ls 7 [(0, .ref (ad 0)), (1, .int v1), (2, .int v2_127), (3, .int v3_4)] → W p l e ({ frames := 3, cells := 0, slots := 0, locals := 66 }) s m ([.ref (ad 0), .int v1] : List Value).toArray below meth c H locs 0 0 (MQ below (gQ dC dI (some (.int r9)) A [(ad 0, .inr (10, oM ad m_undoCount m_thrown m_hasSnapshot a_m_fam m_rows m_lineLength m_formattedLength m_bufferLength m_limit m_next m_beginsAt m_token m_error m_errorAt m_errorPosition m_nested m_codeCount)), (a_m_fam, .inl (cJ, 130, .inr (.inl m_fam))), ((ad 9), .inl (cI, 16, .inl m_generation)), ((ad 10), .inl (cI, 12, .inl m_level))]) ([.ref (ad 0), .int v1] : List Value).toArray s 0 0 A) (F0 m 127 ls []) := by
        intro v2_127 H locs ls hf hP hD hS hl
        rw [p10_crossingsBelow_J127] at hf
        obtain ⟨t127, h9⟩ : ∃ z : Int32, z = (v3_4 + (1 : Int32)) := ⟨_, rfl⟩
        have hf := lb_e h9 hf
        refine lv_iinc (v := t127) (lv' := [(3, .int t127), (0, .ref (ad 0)), (1, .int v1), (2, .int v2_127)]) hx hb dX10_crossingsBelow_127 hl (k := 3) rfl (by rw [h9]; rfl) (by decide) rfl (fun ls hl => ?_)
        refine lv_goto (tgt := 4) hx hb dX10_crossingsBelow_130 (by decide) ?_
        exact ih4 v2_127 t127 ex4 H locs ls hf hk4 hP hD hS (lv_sub hl [1, 2, 3, 0] rfl)
      refine lv_iload_n hx hb dX10_crossingsBelow_4 rfl (lv_at hl 3 rfl) ?_
      refine lv_aload_n hx hb dX10_crossingsBelow_5 rfl (lv_at hl 0 rfl) ?_
      obtain ⟨r6, h9, hf⟩ := ob_s hf
      refine gcV (index := 121) S hE (c_X10_persons ad a_m_fam m_undoCount m_thrown m_hasSnapshot m_rows m_lineLength m_formattedLength m_bufferLength m_limit m_next m_beginsAt m_token m_error m_errorAt m_errorPosition m_nested m_codeCount m_fam r6 h9) mX10_persons tw1511 ⟨Nat.le_of_ble_eq_true rfl, Nat.le_of_ble_eq_true rfl⟩ hP hD hS hA ⟨Nat.zero_le _, Nat.zero_le _⟩ 0 10 rfl rfl rfl (wr := [((ad 9), .inl (cI, 16, .inl m_generation)), ((ad 10), .inl (cI, 12, .inl m_level))]) [0, 1] [2, 3] rfl rfl rfl rfl (by decide) (As := []) (rest := [.int v3_4]) rfl hl.1 rfl (Nat.le_of_ble_eq_true rfl) dX10_crossingsBelow_6 (fun H locs hP hD hS => ?_)
      refine W.eq (g2 := F0 m 9 ls [.int r6, .int v3_4]) rfl ?_
      have hP : va_P (dC, dI) vwCl [((ad 9), .inl (cI, 16, .inl m_generation)), ((ad 10), .inl (cI, 12, .inl m_level)), (ad 0, .inr (10, oM ad m_undoCount m_thrown m_hasSnapshot a_m_fam m_rows m_lineLength m_formattedLength m_bufferLength m_limit m_next m_beginsAt m_token m_error m_errorAt m_errorPosition m_nested m_codeCount)), (a_m_fam, .inl (cJ, 130, .inr (.inl m_fam)))] H := hP
      have hD : va_D A [((ad 9), .inl (cI, 16, .inl m_generation)), ((ad 10), .inl (cI, 12, .inl m_level)), (ad 0, .inr (10, oM ad m_undoCount m_thrown m_hasSnapshot a_m_fam m_rows m_lineLength m_formattedLength m_bufferLength m_limit m_next m_beginsAt m_token m_error m_errorAt m_errorPosition m_nested m_codeCount)), (a_m_fam, .inl (cJ, 130, .inr (.inl m_fam)))] := hD
      refine lv_icmp_ge (tgt := 133) hx hb dX10_crossingsBelow_9 (by decide) (fun h9 => ?_) (fun h9 => ?_)
      · have hf := itt h9 hf
        cases hf
        have hf := hk4
        exact J133 v2_4 H locs ls hf (hP.sub [2, 3, 0, 1] rfl) (hD.sub [2, 3, 0, 1] (by decide) rfl) hS (lv_sub hl [2] rfl)
      · have hf := itf h9 hf
        refine lv_iconst (v := 0) hx hb dX10_crossingsBelow_12 (by decide) ?_
        refine lv_istore (lv' := [(4, .int (0 : Int32)), (0, .ref (ad 0)), (1, .int v1), (2, .int v2_4), (3, .int v3_4)]) hx hb dX10_crossingsBelow_13 hl (by decide) rfl (fun ls hl => ?_)
        have K15 : ∀ (n15 : Nat) (v2_15 : Int32) (v4_15 : Int32) (ex15 : Int32) (H : Heap) (locs : List Loc) (ls : Array Slot), p10_crossingsBelow_L15 m_fam m_generation m_level v1 v3_4 n15 v2_15 v4_15 = some ex15 → (fun v2_x15 => p10_crossingsBelow_J127 (p10_crossingsBelow_L4 m_fam m_generation m_level v1 n4) v3_4 v2_x15) ex15 = some ex4 → va_P (dC, dI) vwCl [(ad 0, .inr (10, oM ad m_undoCount m_thrown m_hasSnapshot a_m_fam m_rows m_lineLength m_formattedLength m_bufferLength m_limit m_next m_beginsAt m_token m_error m_errorAt m_errorPosition m_nested m_codeCount)), (a_m_fam, .inl (cJ, 130, .inr (.inl m_fam))), ((ad 9), .inl (cI, 16, .inl m_generation)), ((ad 10), .inl (cI, 12, .inl m_level))] H → va_D A [(ad 0, .inr (10, oM ad m_undoCount m_thrown m_hasSnapshot a_m_fam m_rows m_lineLength m_formattedLength m_bufferLength m_limit m_next m_beginsAt m_token m_error m_errorAt m_errorPosition m_nested m_codeCount)), (a_m_fam, .inl (cJ, 130, .inr (.inl m_fam))), ((ad 9), .inl (cI, 16, .inl m_generation)), ((ad 10), .inl (cI, 12, .inl m_level))] → va_S A s.heap H locs → lv_has ls 7 [(0, .ref (ad 0)), (1, .int v1), (2, .int v2_15), (3, .int v3_4), (4, .int v4_15)] → W p l e ({ frames := 3, cells := 0, slots := 0, locals := 66 }) s m ([.ref (ad 0), .int v1] : List Value).toArray below meth c H locs 0 0 (MQ below (gQ dC dI (some (.int r9)) A [(ad 0, .inr (10, oM ad m_undoCount m_thrown m_hasSnapshot a_m_fam m_rows m_lineLength m_formattedLength m_bufferLength m_limit m_next m_beginsAt m_token m_error m_errorAt m_errorPosition m_nested m_codeCount)), (a_m_fam, .inl (cJ, 130, .inr (.inl m_fam))), ((ad 9), .inl (cI, 16, .inl m_generation)), ((ad 10), .inl (cI, 12, .inl m_level))]) ([.ref (ad 0), .int v1] : List Value).toArray s 0 0 A) (F0 m 15 ls []) := by
          intro n15
          induction n15 with
          | zero => intro v2_15 v4_15 ex15 H locs ls hf; rw [p10_crossingsBelow_L15] at hf; cases hf
          | succ n15 ih15 =>
            intro v2_15 v4_15 ex15 H locs ls hf hk15 hP hD hS hl
            rw [p10_crossingsBelow_L15, p10_crossingsBelow_L15_B] at hf
            refine lv_iload hx hb dX10_crossingsBelow_15 (lv_at hl 4 rfl) ?_
            refine lv_iload_n hx hb dX10_crossingsBelow_17 rfl (lv_at hl 3 rfl) ?_
            refine lv_icmp_ge (tgt := 127) hx hb dX10_crossingsBelow_18 (by decide) (fun h9 => ?_) (fun h9 => ?_)
            · have hf := itt h9 hf
              cases hf
              have hf := hk15
              exact J127 v2_15 H locs ls hf hP hD hS (lv_sub hl [0, 1, 2, 3] rfl)
            · have hf := itf h9 hf
              refine lv_aload_n hx hb dX10_crossingsBelow_21 rfl (lv_at hl 0 rfl) ?_
              refine lv_iload_n hx hb dX10_crossingsBelow_22 rfl (lv_at hl 3 rfl) ?_
              refine lv_iload_n hx hb dX10_crossingsBelow_23 rfl (lv_at hl 1 rfl) ?_
              obtain ⟨r24, h9, hf⟩ := ob_s hf
              refine gcV (index := 166) S hE (c_X10_isChildAt ad a_m_fam m_undoCount m_thrown m_hasSnapshot m_rows m_lineLength m_formattedLength m_bufferLength m_limit m_next m_beginsAt m_token m_error m_errorAt m_errorPosition m_nested m_codeCount m_fam m_level v3_4 v1 r24 h9) mX10_isChildAt tw1757 ⟨Nat.le_of_ble_eq_true rfl, Nat.le_of_ble_eq_true rfl⟩ hP hD hS hA ⟨Nat.zero_le _, Nat.zero_le _⟩ 0 10 rfl rfl rfl (wr := [((ad 9), .inl (cI, 16, .inl m_generation))]) [0, 1, 3] [2] rfl rfl rfl rfl (by decide) (As := [.int v3_4, .int v1]) (rest := []) rfl hl.1 rfl (Nat.le_of_ble_eq_true rfl) dX10_crossingsBelow_24 (fun H locs hP hD hS => ?_)
              refine W.eq (g2 := F0 m 27 ls [.int (bI r24)]) rfl ?_
              have hP : va_P (dC, dI) vwCl [((ad 9), .inl (cI, 16, .inl m_generation)), (ad 0, .inr (10, oM ad m_undoCount m_thrown m_hasSnapshot a_m_fam m_rows m_lineLength m_formattedLength m_bufferLength m_limit m_next m_beginsAt m_token m_error m_errorAt m_errorPosition m_nested m_codeCount)), (a_m_fam, .inl (cJ, 130, .inr (.inl m_fam))), ((ad 10), .inl (cI, 12, .inl m_level))] H := hP
              have hD : va_D A [((ad 9), .inl (cI, 16, .inl m_generation)), (ad 0, .inr (10, oM ad m_undoCount m_thrown m_hasSnapshot a_m_fam m_rows m_lineLength m_formattedLength m_bufferLength m_limit m_next m_beginsAt m_token m_error m_errorAt m_errorPosition m_nested m_codeCount)), (a_m_fam, .inl (cJ, 130, .inr (.inl m_fam))), ((ad 10), .inl (cI, 12, .inl m_level))] := hD
              refine lv_if_eq (tgt := 127) hx hb dX10_crossingsBelow_27 (by decide) (fun h9 => ?_) (fun h9 => ?_)
              · have hf := ctf (bI_0 h9) hf
                cases hf
                have hf := hk15
                exact J127 v2_15 H locs ls hf (hP.sub [1, 2, 0, 3] rfl) (hD.sub [1, 2, 0, 3] (by decide) rfl) hS (lv_sub hl [0, 1, 2, 3] rfl)
              · have hf := ctt (bI_1 h9) hf
                refine lv_aload_n hx hb dX10_crossingsBelow_30 rfl (lv_at hl 0 rfl) ?_
                refine lv_iload hx hb dX10_crossingsBelow_31 (lv_at hl 4 rfl) ?_
                refine lv_iload_n hx hb dX10_crossingsBelow_33 rfl (lv_at hl 1 rfl) ?_
                obtain ⟨r34, h9, hf⟩ := ob_s hf
                refine gcV (index := 166) S hE (c_X10_isChildAt ad a_m_fam m_undoCount m_thrown m_hasSnapshot m_rows m_lineLength m_formattedLength m_bufferLength m_limit m_next m_beginsAt m_token m_error m_errorAt m_errorPosition m_nested m_codeCount m_fam m_level v4_15 v1 r34 h9) mX10_isChildAt tw1757 ⟨Nat.le_of_ble_eq_true rfl, Nat.le_of_ble_eq_true rfl⟩ hP hD hS hA ⟨Nat.zero_le _, Nat.zero_le _⟩ 1 10 rfl rfl rfl (wr := [((ad 9), .inl (cI, 16, .inl m_generation))]) [1, 2, 3] [0] rfl rfl rfl rfl (by decide) (As := [.int v4_15, .int v1]) (rest := []) rfl hl.1 rfl (Nat.le_of_ble_eq_true rfl) dX10_crossingsBelow_34 (fun H locs hP hD hS => ?_)
                refine W.eq (g2 := F0 m 37 ls [.int (bI r34)]) rfl ?_
                have hP : va_P (dC, dI) vwCl [((ad 9), .inl (cI, 16, .inl m_generation)), (ad 0, .inr (10, oM ad m_undoCount m_thrown m_hasSnapshot a_m_fam m_rows m_lineLength m_formattedLength m_bufferLength m_limit m_next m_beginsAt m_token m_error m_errorAt m_errorPosition m_nested m_codeCount)), (a_m_fam, .inl (cJ, 130, .inr (.inl m_fam))), ((ad 10), .inl (cI, 12, .inl m_level))] H := hP
                have hD : va_D A [((ad 9), .inl (cI, 16, .inl m_generation)), (ad 0, .inr (10, oM ad m_undoCount m_thrown m_hasSnapshot a_m_fam m_rows m_lineLength m_formattedLength m_bufferLength m_limit m_next m_beginsAt m_token m_error m_errorAt m_errorPosition m_nested m_codeCount)), (a_m_fam, .inl (cJ, 130, .inr (.inl m_fam))), ((ad 10), .inl (cI, 12, .inl m_level))] := hD
                refine lv_if_eq (tgt := 121) hx hb dX10_crossingsBelow_37 (by decide) (fun h9 => ?_) (fun h9 => ?_)
                · have hf := ctf (bI_0 h9) hf
                  obtain ⟨t121, h9⟩ : ∃ z : Int32, z = (v4_15 + (1 : Int32)) := ⟨_, rfl⟩
                  have hf := lb_e h9 hf
                  refine lv_iinc (v := t121) (lv' := [(4, .int t121), (0, .ref (ad 0)), (1, .int v1), (2, .int v2_15), (3, .int v3_4)]) hx hb dX10_crossingsBelow_121 hl (k := 4) rfl (by rw [h9]; rfl) (by decide) rfl (fun ls hl => ?_)
                  refine lv_goto (tgt := 15) hx hb dX10_crossingsBelow_124 (by decide) ?_
                  exact ih15 v2_15 t121 ex15 H locs ls hf hk15 (hP.sub [1, 2, 0, 3] rfl) (hD.sub [1, 2, 0, 3] (by decide) rfl) hS (lv_sub hl [1, 2, 3, 4, 0] rfl)
                · have hf := ctt (bI_1 h9) hf
                  refine lv_aload_n hx hb dX10_crossingsBelow_40 rfl (lv_at hl 0 rfl) ?_
                  refine lv_iload_n hx hb dX10_crossingsBelow_41 rfl (lv_at hl 3 rfl) ?_
                  obtain ⟨r42, h9, hf⟩ := ob_s hf
                  refine gcV (index := 117) S hE (c_X10_parentsOf ad a_m_fam m_undoCount m_thrown m_hasSnapshot m_rows m_lineLength m_formattedLength m_bufferLength m_limit m_next m_beginsAt m_token m_error m_errorAt m_errorPosition m_nested m_codeCount m_fam v3_4 r42 h9) mX10_parentsOf tw1515 ⟨Nat.le_of_ble_eq_true rfl, Nat.le_of_ble_eq_true rfl⟩ hP hD hS hA ⟨Nat.zero_le _, Nat.zero_le _⟩ 1 10 rfl rfl rfl (wr := [((ad 9), .inl (cI, 16, .inl m_generation)), ((ad 10), .inl (cI, 12, .inl m_level))]) [1, 2] [0, 3] rfl rfl rfl rfl (by decide) (As := [.int v3_4]) (rest := []) rfl hl.1 rfl (Nat.le_of_ble_eq_true rfl) dX10_crossingsBelow_42 (fun H locs hP hD hS => ?_)
                  refine W.eq (g2 := F0 m 45 ls [.int r42]) rfl ?_
                  have hP : va_P (dC, dI) vwCl [((ad 9), .inl (cI, 16, .inl m_generation)), ((ad 10), .inl (cI, 12, .inl m_level)), (ad 0, .inr (10, oM ad m_undoCount m_thrown m_hasSnapshot a_m_fam m_rows m_lineLength m_formattedLength m_bufferLength m_limit m_next m_beginsAt m_token m_error m_errorAt m_errorPosition m_nested m_codeCount)), (a_m_fam, .inl (cJ, 130, .inr (.inl m_fam)))] H := hP
                  have hD : va_D A [((ad 9), .inl (cI, 16, .inl m_generation)), ((ad 10), .inl (cI, 12, .inl m_level)), (ad 0, .inr (10, oM ad m_undoCount m_thrown m_hasSnapshot a_m_fam m_rows m_lineLength m_formattedLength m_bufferLength m_limit m_next m_beginsAt m_token m_error m_errorAt m_errorPosition m_nested m_codeCount)), (a_m_fam, .inl (cJ, 130, .inr (.inl m_fam)))] := hD
                  refine lv_aload_n hx hb dX10_crossingsBelow_45 rfl (lv_at hl 0 rfl) ?_
                  refine lv_iload hx hb dX10_crossingsBelow_46 (lv_at hl 4 rfl) ?_
                  obtain ⟨r48, h9, hf⟩ := ob_s hf
                  refine gcV (index := 117) S hE (c_X10_parentsOf ad a_m_fam m_undoCount m_thrown m_hasSnapshot m_rows m_lineLength m_formattedLength m_bufferLength m_limit m_next m_beginsAt m_token m_error m_errorAt m_errorPosition m_nested m_codeCount m_fam v4_15 r48 h9) mX10_parentsOf tw1515 ⟨Nat.le_of_ble_eq_true rfl, Nat.le_of_ble_eq_true rfl⟩ hP hD hS hA ⟨Nat.zero_le _, Nat.zero_le _⟩ 2 10 rfl rfl rfl (wr := [((ad 9), .inl (cI, 16, .inl m_generation)), ((ad 10), .inl (cI, 12, .inl m_level))]) [2, 3] [0, 1] rfl rfl rfl rfl (by decide) (As := [.int v4_15]) (rest := [.int r42]) rfl hl.1 rfl (Nat.le_of_ble_eq_true rfl) dX10_crossingsBelow_48 (fun H locs hP hD hS => ?_)
                  refine W.eq (g2 := F0 m 51 ls [.int r48, .int r42]) rfl ?_
                  have hP : va_P (dC, dI) vwCl [((ad 9), .inl (cI, 16, .inl m_generation)), ((ad 10), .inl (cI, 12, .inl m_level)), (ad 0, .inr (10, oM ad m_undoCount m_thrown m_hasSnapshot a_m_fam m_rows m_lineLength m_formattedLength m_bufferLength m_limit m_next m_beginsAt m_token m_error m_errorAt m_errorPosition m_nested m_codeCount)), (a_m_fam, .inl (cJ, 130, .inr (.inl m_fam)))] H := hP
                  have hD : va_D A [((ad 9), .inl (cI, 16, .inl m_generation)), ((ad 10), .inl (cI, 12, .inl m_level)), (ad 0, .inr (10, oM ad m_undoCount m_thrown m_hasSnapshot a_m_fam m_rows m_lineLength m_formattedLength m_bufferLength m_limit m_next m_beginsAt m_token m_error m_errorAt m_errorPosition m_nested m_codeCount)), (a_m_fam, .inl (cJ, 130, .inr (.inl m_fam)))] := hD
                  refine lv_icmp_ne (tgt := 57) hx hb dX10_crossingsBelow_51 (by decide) (fun h9 => ?_) (fun h9 => ?_)
                  · have hf := itf h9 hf
                    refine lv_aload_n hx hb dX10_crossingsBelow_57 rfl (lv_at hl 0 rfl) ?_
                    refine lv_aload_n hx hb dX10_crossingsBelow_58 rfl (lv_at hl 0 rfl) ?_
                    refine lv_iload_n hx hb dX10_crossingsBelow_59 rfl (lv_at hl 3 rfl) ?_
                    obtain ⟨r60, h9, hf⟩ := ob_s hf
                    refine gcV (index := 117) S hE (c_X10_parentsOf ad a_m_fam m_undoCount m_thrown m_hasSnapshot m_rows m_lineLength m_formattedLength m_bufferLength m_limit m_next m_beginsAt m_token m_error m_errorAt m_errorPosition m_nested m_codeCount m_fam v3_4 r60 h9) mX10_parentsOf tw1515 ⟨Nat.le_of_ble_eq_true rfl, Nat.le_of_ble_eq_true rfl⟩ hP hD hS hA ⟨Nat.zero_le _, Nat.zero_le _⟩ 2 10 rfl rfl rfl (wr := [((ad 9), .inl (cI, 16, .inl m_generation)), ((ad 10), .inl (cI, 12, .inl m_level))]) [2, 3] [0, 1] rfl rfl rfl rfl (by decide) (As := [.int v3_4]) (rest := [.ref (ad 0)]) rfl hl.1 rfl (Nat.le_of_ble_eq_true rfl) dX10_crossingsBelow_60 (fun H locs hP hD hS => ?_)
                    refine W.eq (g2 := F0 m 63 ls [.int r60, .ref (ad 0)]) rfl ?_
                    have hP : va_P (dC, dI) vwCl [((ad 9), .inl (cI, 16, .inl m_generation)), ((ad 10), .inl (cI, 12, .inl m_level)), (ad 0, .inr (10, oM ad m_undoCount m_thrown m_hasSnapshot a_m_fam m_rows m_lineLength m_formattedLength m_bufferLength m_limit m_next m_beginsAt m_token m_error m_errorAt m_errorPosition m_nested m_codeCount)), (a_m_fam, .inl (cJ, 130, .inr (.inl m_fam)))] H := hP
                    have hD : va_D A [((ad 9), .inl (cI, 16, .inl m_generation)), ((ad 10), .inl (cI, 12, .inl m_level)), (ad 0, .inr (10, oM ad m_undoCount m_thrown m_hasSnapshot a_m_fam m_rows m_lineLength m_formattedLength m_bufferLength m_limit m_next m_beginsAt m_token m_error m_errorAt m_errorPosition m_nested m_codeCount)), (a_m_fam, .inl (cJ, 130, .inr (.inl m_fam)))] := hD
                    obtain ⟨r63, h9, hf⟩ := ob_s hf
                    refine gcV (index := 169) S hE (c_X10_middle ad a_m_fam m_undoCount m_thrown m_hasSnapshot m_rows m_lineLength m_formattedLength m_bufferLength m_limit m_next m_beginsAt m_token m_error m_errorAt m_errorPosition m_nested m_codeCount m_fam m_generation m_level r60 r63 h9) mX10_middle tw1636 ⟨Nat.le_of_ble_eq_true rfl, Nat.le_of_ble_eq_true rfl⟩ hP hD hS hA ⟨Nat.zero_le _, Nat.zero_le _⟩ 2 10 rfl rfl rfl (wr := []) [2, 3, 0, 1] [] rfl rfl rfl rfl (by decide) (As := [.int r60]) (rest := []) rfl hl.1 rfl (Nat.le_of_ble_eq_true rfl) dX10_crossingsBelow_63 (fun H locs hP hD hS => ?_)
                    refine W.eq (g2 := F0 m 66 ls [.int r63]) rfl ?_
                    have hP : va_P (dC, dI) vwCl [(ad 0, .inr (10, oM ad m_undoCount m_thrown m_hasSnapshot a_m_fam m_rows m_lineLength m_formattedLength m_bufferLength m_limit m_next m_beginsAt m_token m_error m_errorAt m_errorPosition m_nested m_codeCount)), (a_m_fam, .inl (cJ, 130, .inr (.inl m_fam))), ((ad 9), .inl (cI, 16, .inl m_generation)), ((ad 10), .inl (cI, 12, .inl m_level))] H := hP
                    have hD : va_D A [(ad 0, .inr (10, oM ad m_undoCount m_thrown m_hasSnapshot a_m_fam m_rows m_lineLength m_formattedLength m_bufferLength m_limit m_next m_beginsAt m_token m_error m_errorAt m_errorPosition m_nested m_codeCount)), (a_m_fam, .inl (cJ, 130, .inr (.inl m_fam))), ((ad 9), .inl (cI, 16, .inl m_generation)), ((ad 10), .inl (cI, 12, .inl m_level))] := hD
                    refine lv_aload_n hx hb dX10_crossingsBelow_66 rfl (lv_at hl 0 rfl) ?_
                    refine lv_aload_n hx hb dX10_crossingsBelow_67 rfl (lv_at hl 0 rfl) ?_
                    refine lv_iload hx hb dX10_crossingsBelow_68 (lv_at hl 4 rfl) ?_
                    obtain ⟨r70, h9, hf⟩ := ob_s hf
                    refine gcV (index := 117) S hE (c_X10_parentsOf ad a_m_fam m_undoCount m_thrown m_hasSnapshot m_rows m_lineLength m_formattedLength m_bufferLength m_limit m_next m_beginsAt m_token m_error m_errorAt m_errorPosition m_nested m_codeCount m_fam v4_15 r70 h9) mX10_parentsOf tw1515 ⟨Nat.le_of_ble_eq_true rfl, Nat.le_of_ble_eq_true rfl⟩ hP hD hS hA ⟨Nat.zero_le _, Nat.zero_le _⟩ 0 10 rfl rfl rfl (wr := [((ad 9), .inl (cI, 16, .inl m_generation)), ((ad 10), .inl (cI, 12, .inl m_level))]) [0, 1] [2, 3] rfl rfl rfl rfl (by decide) (As := [.int v4_15]) (rest := [.ref (ad 0), .int r63]) rfl hl.1 rfl (Nat.le_of_ble_eq_true rfl) dX10_crossingsBelow_70 (fun H locs hP hD hS => ?_)
                    refine W.eq (g2 := F0 m 73 ls [.int r70, .ref (ad 0), .int r63]) rfl ?_
                    have hP : va_P (dC, dI) vwCl [((ad 9), .inl (cI, 16, .inl m_generation)), ((ad 10), .inl (cI, 12, .inl m_level)), (ad 0, .inr (10, oM ad m_undoCount m_thrown m_hasSnapshot a_m_fam m_rows m_lineLength m_formattedLength m_bufferLength m_limit m_next m_beginsAt m_token m_error m_errorAt m_errorPosition m_nested m_codeCount)), (a_m_fam, .inl (cJ, 130, .inr (.inl m_fam)))] H := hP
                    have hD : va_D A [((ad 9), .inl (cI, 16, .inl m_generation)), ((ad 10), .inl (cI, 12, .inl m_level)), (ad 0, .inr (10, oM ad m_undoCount m_thrown m_hasSnapshot a_m_fam m_rows m_lineLength m_formattedLength m_bufferLength m_limit m_next m_beginsAt m_token m_error m_errorAt m_errorPosition m_nested m_codeCount)), (a_m_fam, .inl (cJ, 130, .inr (.inl m_fam)))] := hD
                    obtain ⟨r73, h9, hf⟩ := ob_s hf
                    refine gcV (index := 169) S hE (c_X10_middle ad a_m_fam m_undoCount m_thrown m_hasSnapshot m_rows m_lineLength m_formattedLength m_bufferLength m_limit m_next m_beginsAt m_token m_error m_errorAt m_errorPosition m_nested m_codeCount m_fam m_generation m_level r70 r73 h9) mX10_middle tw1636 ⟨Nat.le_of_ble_eq_true rfl, Nat.le_of_ble_eq_true rfl⟩ hP hD hS hA ⟨Nat.zero_le _, Nat.zero_le _⟩ 2 10 rfl rfl rfl (wr := []) [2, 3, 0, 1] [] rfl rfl rfl rfl (by decide) (As := [.int r70]) (rest := [.int r63]) rfl hl.1 rfl (Nat.le_of_ble_eq_true rfl) dX10_crossingsBelow_73 (fun H locs hP hD hS => ?_)
                    refine W.eq (g2 := F0 m 76 ls [.int r73, .int r63]) rfl ?_
                    have hP : va_P (dC, dI) vwCl [(ad 0, .inr (10, oM ad m_undoCount m_thrown m_hasSnapshot a_m_fam m_rows m_lineLength m_formattedLength m_bufferLength m_limit m_next m_beginsAt m_token m_error m_errorAt m_errorPosition m_nested m_codeCount)), (a_m_fam, .inl (cJ, 130, .inr (.inl m_fam))), ((ad 9), .inl (cI, 16, .inl m_generation)), ((ad 10), .inl (cI, 12, .inl m_level))] H := hP
                    have hD : va_D A [(ad 0, .inr (10, oM ad m_undoCount m_thrown m_hasSnapshot a_m_fam m_rows m_lineLength m_formattedLength m_bufferLength m_limit m_next m_beginsAt m_token m_error m_errorAt m_errorPosition m_nested m_codeCount)), (a_m_fam, .inl (cJ, 130, .inr (.inl m_fam))), ((ad 9), .inl (cI, 16, .inl m_generation)), ((ad 10), .inl (cI, 12, .inl m_level))] := hD
                    refine lv_isub hx hb dX10_crossingsBelow_76 ?_
                    refine lv_topi (fun t77 h9 => ?_)
                    have hf := lb_e h9 hf
                    refine lv_istore (lv' := [(5, .int t77), (0, .ref (ad 0)), (1, .int v1), (2, .int v2_15), (3, .int v3_4), (4, .int v4_15)]) hx hb dX10_crossingsBelow_77 hl (by decide) rfl (fun ls hl => ?_)
                    refine lv_aload_n hx hb dX10_crossingsBelow_79 rfl (lv_at hl 1 rfl) ?_
                    refine lv_iload_n hx hb dX10_crossingsBelow_80 rfl (lv_at hl 4 rfl) ?_
                    obtain ⟨r81, h9, hf⟩ := ob_s hf
                    refine gcV (index := 147) S hE (c_X10_placeOf ad a_m_fam m_undoCount m_thrown m_hasSnapshot m_rows m_lineLength m_formattedLength m_bufferLength m_limit m_next m_beginsAt m_token m_error m_errorAt m_errorPosition m_nested m_codeCount m_fam v3_4 r81 h9) mX10_placeOf tw1548 ⟨Nat.le_of_ble_eq_true rfl, Nat.le_of_ble_eq_true rfl⟩ hP hD hS hA ⟨Nat.zero_le _, Nat.zero_le _⟩ 0 10 rfl rfl rfl (wr := [((ad 9), .inl (cI, 16, .inl m_generation)), ((ad 10), .inl (cI, 12, .inl m_level))]) [0, 1] [2, 3] rfl rfl rfl rfl (by decide) (As := [.int v3_4]) (rest := []) rfl hl.1 rfl (Nat.le_of_ble_eq_true rfl) dX10_crossingsBelow_81 (fun H locs hP hD hS => ?_)
                    refine W.eq (g2 := F0 m 84 ls [.int r81]) rfl ?_
                    have hP : va_P (dC, dI) vwCl [((ad 9), .inl (cI, 16, .inl m_generation)), ((ad 10), .inl (cI, 12, .inl m_level)), (ad 0, .inr (10, oM ad m_undoCount m_thrown m_hasSnapshot a_m_fam m_rows m_lineLength m_formattedLength m_bufferLength m_limit m_next m_beginsAt m_token m_error m_errorAt m_errorPosition m_nested m_codeCount)), (a_m_fam, .inl (cJ, 130, .inr (.inl m_fam)))] H := hP
                    have hD : va_D A [((ad 9), .inl (cI, 16, .inl m_generation)), ((ad 10), .inl (cI, 12, .inl m_level)), (ad 0, .inr (10, oM ad m_undoCount m_thrown m_hasSnapshot a_m_fam m_rows m_lineLength m_formattedLength m_bufferLength m_limit m_next m_beginsAt m_token m_error m_errorAt m_errorPosition m_nested m_codeCount)), (a_m_fam, .inl (cJ, 130, .inr (.inl m_fam)))] := hD
                    refine lv_aload_n hx hb dX10_crossingsBelow_84 rfl (lv_at hl 1 rfl) ?_
                    refine lv_iload hx hb dX10_crossingsBelow_85 (lv_at hl 5 rfl) ?_
                    obtain ⟨r87, h9, hf⟩ := ob_s hf
                    refine gcV (index := 147) S hE (c_X10_placeOf ad a_m_fam m_undoCount m_thrown m_hasSnapshot m_rows m_lineLength m_formattedLength m_bufferLength m_limit m_next m_beginsAt m_token m_error m_errorAt m_errorPosition m_nested m_codeCount m_fam v4_15 r87 h9) mX10_placeOf tw1548 ⟨Nat.le_of_ble_eq_true rfl, Nat.le_of_ble_eq_true rfl⟩ hP hD hS hA ⟨Nat.zero_le _, Nat.zero_le _⟩ 2 10 rfl rfl rfl (wr := [((ad 9), .inl (cI, 16, .inl m_generation)), ((ad 10), .inl (cI, 12, .inl m_level))]) [2, 3] [0, 1] rfl rfl rfl rfl (by decide) (As := [.int v4_15]) (rest := [.int r81]) rfl hl.1 rfl (Nat.le_of_ble_eq_true rfl) dX10_crossingsBelow_87 (fun H locs hP hD hS => ?_)
                    refine W.eq (g2 := F0 m 90 ls [.int r87, .int r81]) rfl ?_
                    have hP : va_P (dC, dI) vwCl [((ad 9), .inl (cI, 16, .inl m_generation)), ((ad 10), .inl (cI, 12, .inl m_level)), (ad 0, .inr (10, oM ad m_undoCount m_thrown m_hasSnapshot a_m_fam m_rows m_lineLength m_formattedLength m_bufferLength m_limit m_next m_beginsAt m_token m_error m_errorAt m_errorPosition m_nested m_codeCount)), (a_m_fam, .inl (cJ, 130, .inr (.inl m_fam)))] H := hP
                    have hD : va_D A [((ad 9), .inl (cI, 16, .inl m_generation)), ((ad 10), .inl (cI, 12, .inl m_level)), (ad 0, .inr (10, oM ad m_undoCount m_thrown m_hasSnapshot a_m_fam m_rows m_lineLength m_formattedLength m_bufferLength m_limit m_next m_beginsAt m_token m_error m_errorAt m_errorPosition m_nested m_codeCount)), (a_m_fam, .inl (cJ, 130, .inr (.inl m_fam)))] := hD
                    refine lv_isub hx hb dX10_crossingsBelow_90 ?_
                    refine lv_topi (fun t91 h9 => ?_)
                    have hf := lb_e h9 hf
                    refine lv_istore (lv' := [(6, .int t91), (5, .int t77), (0, .ref (ad 0)), (1, .int v1), (2, .int v2_15), (3, .int v3_4), (4, .int v4_15)]) hx hb dX10_crossingsBelow_91 hl (by decide) rfl (fun ls hl => ?_)
                    refine lv_iload_n hx hb dX10_crossingsBelow_93 rfl (lv_at hl 4 rfl) ?_
                    refine lv_iload hx hb dX10_crossingsBelow_94 (lv_at hl 1 rfl) ?_
                    refine lv_if_ge (tgt := 104) hx hb dX10_crossingsBelow_96 (by decide) (fun h9 => ?_) (fun h9 => ?_)
                    · have hf := itt h9 hf
                      refine lv_iload hx hb dX10_crossingsBelow_104 (lv_at hl 1 rfl) ?_
                      refine lv_if_le (tgt := 118) hx hb dX10_crossingsBelow_106 (by decide) (fun h9 => ?_) (fun h9 => ?_)
                      · have hf := itt h9 hf
                        refine lv_iconst (v := 0) hx hb dX10_crossingsBelow_118 (by decide) ?_
                        refine lv_iadd hx hb dX10_crossingsBelow_119 ?_
                        refine lv_topi (fun t120 h9 => ?_)
                        have hf := lb_e h9 hf
                        refine lv_istore_n (lv' := [(2, .int t120), (6, .int t91), (5, .int t77), (0, .ref (ad 0)), (1, .int v1), (3, .int v3_4), (4, .int v4_15)]) hx hb dX10_crossingsBelow_120 rfl hl (by decide) rfl (fun ls hl => ?_)
                        obtain ⟨t121, h9⟩ : ∃ z : Int32, z = (v4_15 + (1 : Int32)) := ⟨_, rfl⟩
                        have hf := lb_e h9 hf
                        refine lv_iinc (v := t121) (lv' := [(4, .int t121), (2, .int t120), (6, .int t91), (5, .int t77), (0, .ref (ad 0)), (1, .int v1), (3, .int v3_4)]) hx hb dX10_crossingsBelow_121 hl (k := 6) rfl (by rw [h9]; rfl) (by decide) rfl (fun ls hl => ?_)
                        refine lv_goto (tgt := 15) hx hb dX10_crossingsBelow_124 (by decide) ?_
                        exact ih15 t120 t121 ex15 H locs ls hf hk15 (hP.sub [2, 3, 0, 1] rfl) (hD.sub [2, 3, 0, 1] (by decide) rfl) hS (lv_sub hl [4, 5, 1, 6, 0] rfl)
                      · have hf := itf h9 hf
                        refine lv_iload hx hb dX10_crossingsBelow_109 (lv_at hl 0 rfl) ?_
                        refine lv_if_ge (tgt := 118) hx hb dX10_crossingsBelow_111 (by decide) (fun h9 => ?_) (fun h9 => ?_)
                        · have hf := itt h9 hf
                          refine lv_iconst (v := 0) hx hb dX10_crossingsBelow_118 (by decide) ?_
                          refine lv_iadd hx hb dX10_crossingsBelow_119 ?_
                          refine lv_topi (fun t120 h9 => ?_)
                          have hf := lb_e h9 hf
                          refine lv_istore_n (lv' := [(2, .int t120), (6, .int t91), (5, .int t77), (0, .ref (ad 0)), (1, .int v1), (3, .int v3_4), (4, .int v4_15)]) hx hb dX10_crossingsBelow_120 rfl hl (by decide) rfl (fun ls hl => ?_)
                          obtain ⟨t121, h9⟩ : ∃ z : Int32, z = (v4_15 + (1 : Int32)) := ⟨_, rfl⟩
                          have hf := lb_e h9 hf
                          refine lv_iinc (v := t121) (lv' := [(4, .int t121), (2, .int t120), (6, .int t91), (5, .int t77), (0, .ref (ad 0)), (1, .int v1), (3, .int v3_4)]) hx hb dX10_crossingsBelow_121 hl (k := 6) rfl (by rw [h9]; rfl) (by decide) rfl (fun ls hl => ?_)
                          refine lv_goto (tgt := 15) hx hb dX10_crossingsBelow_124 (by decide) ?_
                          exact ih15 t120 t121 ex15 H locs ls hf hk15 (hP.sub [2, 3, 0, 1] rfl) (hD.sub [2, 3, 0, 1] (by decide) rfl) hS (lv_sub hl [4, 5, 1, 6, 0] rfl)
                        · have hf := itf h9 hf
                          refine lv_iconst (v := 1) hx hb dX10_crossingsBelow_114 (by decide) ?_
                          refine lv_goto (tgt := 119) hx hb dX10_crossingsBelow_115 (by decide) ?_
                          refine lv_iadd hx hb dX10_crossingsBelow_119 ?_
                          refine lv_topi (fun t120 h9 => ?_)
                          have hf := lb_e h9 hf
                          refine lv_istore_n (lv' := [(2, .int t120), (6, .int t91), (5, .int t77), (0, .ref (ad 0)), (1, .int v1), (3, .int v3_4), (4, .int v4_15)]) hx hb dX10_crossingsBelow_120 rfl hl (by decide) rfl (fun ls hl => ?_)
                          obtain ⟨t121, h9⟩ : ∃ z : Int32, z = (v4_15 + (1 : Int32)) := ⟨_, rfl⟩
                          have hf := lb_e h9 hf
                          refine lv_iinc (v := t121) (lv' := [(4, .int t121), (2, .int t120), (6, .int t91), (5, .int t77), (0, .ref (ad 0)), (1, .int v1), (3, .int v3_4)]) hx hb dX10_crossingsBelow_121 hl (k := 6) rfl (by rw [h9]; rfl) (by decide) rfl (fun ls hl => ?_)
                          refine lv_goto (tgt := 15) hx hb dX10_crossingsBelow_124 (by decide) ?_
                          exact ih15 t120 t121 ex15 H locs ls hf hk15 (hP.sub [2, 3, 0, 1] rfl) (hD.sub [2, 3, 0, 1] (by decide) rfl) hS (lv_sub hl [4, 5, 1, 6, 0] rfl)
                    · have hf := itf h9 hf
                      refine lv_iload hx hb dX10_crossingsBelow_99 (lv_at hl 0 rfl) ?_
                      refine lv_if_gt (tgt := 114) hx hb dX10_crossingsBelow_101 (by decide) (fun h9 => ?_) (fun h9 => ?_)
                      · have hf := itt h9 hf
                        refine lv_iconst (v := 1) hx hb dX10_crossingsBelow_114 (by decide) ?_
                        refine lv_goto (tgt := 119) hx hb dX10_crossingsBelow_115 (by decide) ?_
                        refine lv_iadd hx hb dX10_crossingsBelow_119 ?_
                        refine lv_topi (fun t120 h9 => ?_)
                        have hf := lb_e h9 hf
                        refine lv_istore_n (lv' := [(2, .int t120), (6, .int t91), (5, .int t77), (0, .ref (ad 0)), (1, .int v1), (3, .int v3_4), (4, .int v4_15)]) hx hb dX10_crossingsBelow_120 rfl hl (by decide) rfl (fun ls hl => ?_)
                        obtain ⟨t121, h9⟩ : ∃ z : Int32, z = (v4_15 + (1 : Int32)) := ⟨_, rfl⟩
                        have hf := lb_e h9 hf
                        refine lv_iinc (v := t121) (lv' := [(4, .int t121), (2, .int t120), (6, .int t91), (5, .int t77), (0, .ref (ad 0)), (1, .int v1), (3, .int v3_4)]) hx hb dX10_crossingsBelow_121 hl (k := 6) rfl (by rw [h9]; rfl) (by decide) rfl (fun ls hl => ?_)
                        refine lv_goto (tgt := 15) hx hb dX10_crossingsBelow_124 (by decide) ?_
                        exact ih15 t120 t121 ex15 H locs ls hf hk15 (hP.sub [2, 3, 0, 1] rfl) (hD.sub [2, 3, 0, 1] (by decide) rfl) hS (lv_sub hl [4, 5, 1, 6, 0] rfl)
                      · have hf := itf h9 hf
                        refine lv_iload hx hb dX10_crossingsBelow_104 (lv_at hl 1 rfl) ?_
                        refine lv_if_le (tgt := 118) hx hb dX10_crossingsBelow_106 (by decide) (fun h9 => ?_) (fun h9 => ?_)
                        · have hf := itt h9 hf
                          refine lv_iconst (v := 0) hx hb dX10_crossingsBelow_118 (by decide) ?_
                          refine lv_iadd hx hb dX10_crossingsBelow_119 ?_
                          refine lv_topi (fun t120 h9 => ?_)
                          have hf := lb_e h9 hf
                          refine lv_istore_n (lv' := [(2, .int t120), (6, .int t91), (5, .int t77), (0, .ref (ad 0)), (1, .int v1), (3, .int v3_4), (4, .int v4_15)]) hx hb dX10_crossingsBelow_120 rfl hl (by decide) rfl (fun ls hl => ?_)
                          obtain ⟨t121, h9⟩ : ∃ z : Int32, z = (v4_15 + (1 : Int32)) := ⟨_, rfl⟩
                          have hf := lb_e h9 hf
                          refine lv_iinc (v := t121) (lv' := [(4, .int t121), (2, .int t120), (6, .int t91), (5, .int t77), (0, .ref (ad 0)), (1, .int v1), (3, .int v3_4)]) hx hb dX10_crossingsBelow_121 hl (k := 6) rfl (by rw [h9]; rfl) (by decide) rfl (fun ls hl => ?_)
                          refine lv_goto (tgt := 15) hx hb dX10_crossingsBelow_124 (by decide) ?_
                          exact ih15 t120 t121 ex15 H locs ls hf hk15 (hP.sub [2, 3, 0, 1] rfl) (hD.sub [2, 3, 0, 1] (by decide) rfl) hS (lv_sub hl [4, 5, 1, 6, 0] rfl)
                        · have hf := itf h9 hf
                          refine lv_iload hx hb dX10_crossingsBelow_109 (lv_at hl 0 rfl) ?_
                          refine lv_if_ge (tgt := 118) hx hb dX10_crossingsBelow_111 (by decide) (fun h9 => ?_) (fun h9 => ?_)
                          · have hf := itt h9 hf
                            refine lv_iconst (v := 0) hx hb dX10_crossingsBelow_118 (by decide) ?_
                            refine lv_iadd hx hb dX10_crossingsBelow_119 ?_
                            refine lv_topi (fun t120 h9 => ?_)
                            have hf := lb_e h9 hf
                            refine lv_istore_n (lv' := [(2, .int t120), (6, .int t91), (5, .int t77), (0, .ref (ad 0)), (1, .int v1), (3, .int v3_4), (4, .int v4_15)]) hx hb dX10_crossingsBelow_120 rfl hl (by decide) rfl (fun ls hl => ?_)
                            obtain ⟨t121, h9⟩ : ∃ z : Int32, z = (v4_15 + (1 : Int32)) := ⟨_, rfl⟩
                            have hf := lb_e h9 hf
                            refine lv_iinc (v := t121) (lv' := [(4, .int t121), (2, .int t120), (6, .int t91), (5, .int t77), (0, .ref (ad 0)), (1, .int v1), (3, .int v3_4)]) hx hb dX10_crossingsBelow_121 hl (k := 6) rfl (by rw [h9]; rfl) (by decide) rfl (fun ls hl => ?_)
                            refine lv_goto (tgt := 15) hx hb dX10_crossingsBelow_124 (by decide) ?_
                            exact ih15 t120 t121 ex15 H locs ls hf hk15 (hP.sub [2, 3, 0, 1] rfl) (hD.sub [2, 3, 0, 1] (by decide) rfl) hS (lv_sub hl [4, 5, 1, 6, 0] rfl)
                          · have hf := itf h9 hf
                            refine lv_iconst (v := 1) hx hb dX10_crossingsBelow_114 (by decide) ?_
                            refine lv_goto (tgt := 119) hx hb dX10_crossingsBelow_115 (by decide) ?_
                            refine lv_iadd hx hb dX10_crossingsBelow_119 ?_
                            refine lv_topi (fun t120 h9 => ?_)
                            have hf := lb_e h9 hf
                            refine lv_istore_n (lv' := [(2, .int t120), (6, .int t91), (5, .int t77), (0, .ref (ad 0)), (1, .int v1), (3, .int v3_4), (4, .int v4_15)]) hx hb dX10_crossingsBelow_120 rfl hl (by decide) rfl (fun ls hl => ?_)
                            obtain ⟨t121, h9⟩ : ∃ z : Int32, z = (v4_15 + (1 : Int32)) := ⟨_, rfl⟩
                            have hf := lb_e h9 hf
                            refine lv_iinc (v := t121) (lv' := [(4, .int t121), (2, .int t120), (6, .int t91), (5, .int t77), (0, .ref (ad 0)), (1, .int v1), (3, .int v3_4)]) hx hb dX10_crossingsBelow_121 hl (k := 6) rfl (by rw [h9]; rfl) (by decide) rfl (fun ls hl => ?_)
                            refine lv_goto (tgt := 15) hx hb dX10_crossingsBelow_124 (by decide) ?_
                            exact ih15 t120 t121 ex15 H locs ls hf hk15 (hP.sub [2, 3, 0, 1] rfl) (hD.sub [2, 3, 0, 1] (by decide) rfl) hS (lv_sub hl [4, 5, 1, 6, 0] rfl)
                  · have hf := itt h9 hf
                    refine lv_goto (tgt := 121) hx hb dX10_crossingsBelow_54 (by decide) ?_
                    obtain ⟨t121, h9⟩ : ∃ z : Int32, z = (v4_15 + (1 : Int32)) := ⟨_, rfl⟩
                    have hf := lb_e h9 hf
                    refine lv_iinc (v := t121) (lv' := [(4, .int t121), (0, .ref (ad 0)), (1, .int v1), (2, .int v2_15), (3, .int v3_4)]) hx hb dX10_crossingsBelow_121 hl (k := 4) rfl (by rw [h9]; rfl) (by decide) rfl (fun ls hl => ?_)
                    refine lv_goto (tgt := 15) hx hb dX10_crossingsBelow_124 (by decide) ?_
                    exact ih15 v2_15 t121 ex15 H locs ls hf hk15 (hP.sub [2, 3, 0, 1] rfl) (hD.sub [2, 3, 0, 1] (by decide) rfl) hS (lv_sub hl [1, 2, 3, 4, 0] rfl)
        obtain ⟨ex, h9, hf⟩ := ob_s hf
        exact K15 FU v2_4 (0 : Int32) ex H locs ls h9 hf (hP.sub [2, 3, 0, 1] rfl) (hD.sub [2, 3, 0, 1] (by decide) rfl) hS (lv_sub hl [1, 2, 3, 4, 0] rfl)
  obtain ⟨ex, h9, hf⟩ := ob_s hf
  exact K4 FU (0 : Int32) (0 : Int32) ex H locs ls h9 hf hP hD hS (lv_sub hl [2, 3, 1, 0] rfl)
set_option maxHeartbeats 4000000 in
set_option maxRecDepth 100000 in
theorem c_X10_allCrossings (ad : Nat → Nat) (a_m_fam : Nat) (m_undoCount : Int32) (m_thrown : Int32) (m_hasSnapshot : Bool) (m_rows : Int32) (m_lineLength : Int32) (m_formattedLength : Int32) (m_bufferLength : Int32) (m_limit : Int32) (m_next : Int32) (m_beginsAt : Int32) (m_token : Int32) (m_error : Int32) (m_errorAt : Int32) (m_errorPosition : Int32) (m_nested : Int32) (m_codeCount : Int32) (m_fam : Nat → Int64) (m_generation : Nat → Int32) (m_level : Nat → Int32) (r9 : Int32) (hf : p10_allCrossings m_rows m_fam m_generation m_level = some r9) : gM l dC dI cI cJ cZ yX10_allCrossings cX10_allCrossings 3 (some .int) (4) (96) [.ref (ad 0)] [(ad 0, .inr (10, oM ad m_undoCount m_thrown m_hasSnapshot a_m_fam m_rows m_lineLength m_formattedLength m_bufferLength m_limit m_next m_beginsAt m_token m_error m_errorAt m_errorPosition m_nested m_codeCount)), (a_m_fam, .inl (cJ, 130, .inr (.inl m_fam))), ((ad 9), .inl (cI, 16, .inl m_generation)), ((ad 10), .inl (cI, 12, .inl m_level))] [(ad 0, .inr (10, oM ad m_undoCount m_thrown m_hasSnapshot a_m_fam m_rows m_lineLength m_formattedLength m_bufferLength m_limit m_next m_beginsAt m_token m_error m_errorAt m_errorPosition m_nested m_codeCount)), (a_m_fam, .inl (cJ, 130, .inr (.inl m_fam))), ((ad 9), .inl (cI, 16, .inl m_generation)), ((ad 10), .inl (cI, 12, .inl m_level))] (some (.int r9)) := by
  refine g_start (own := RX10) (by decide +kernel) rfl (Nat.le_of_ble_eq_true rfl) ?_
  intro p e s m below meth c A ls S hr hlocks hE hP hD hS hA hl hin
  have hx := S.1
  have hb := S.2.1
  have hml := S.2.2.1
  have hown := S.2.2.2.1
  have htg : ∀ z ∈ gw, z.before ([.ref (ad 0)] : List Value).toArray s = true := fun w h => S.2.2.2.2 w (List.mem_cons_of_mem _ h)
  have hl : lv_has ls 3 [(0, .ref (ad 0))] := hl
  have hS0 := hS
  obtain ⟨H, hH⟩ : ∃ H, H = s.heap := ⟨_, rfl⟩
  obtain ⟨locs, hlc⟩ : ∃ locs : List Loc, locs = [] := ⟨_, rfl⟩
  have hS : va_S A s.heap H locs := by rw [hH, hlc]; exact hS0
  have hP : va_P (dC, dI) vwCl [(ad 0, .inr (10, oM ad m_undoCount m_thrown m_hasSnapshot a_m_fam m_rows m_lineLength m_formattedLength m_bufferLength m_limit m_next m_beginsAt m_token m_error m_errorAt m_errorPosition m_nested m_codeCount)), (a_m_fam, .inl (cJ, 130, .inr (.inl m_fam))), ((ad 9), .inl (cI, 16, .inl m_generation)), ((ad 10), .inl (cI, 12, .inl m_level))] H := by rw [hH]; exact hP
  suffices hgo : W p l e ({ frames := 4, cells := 0, slots := 0, locals := 96 }) s m ([.ref (ad 0)] : List Value).toArray below meth c H locs 0 0 (MQ below (gQ dC dI (some (.int r9)) A [(ad 0, .inr (10, oM ad m_undoCount m_thrown m_hasSnapshot a_m_fam m_rows m_lineLength m_formattedLength m_bufferLength m_limit m_next m_beginsAt m_token m_error m_errorAt m_errorPosition m_nested m_codeCount)), (a_m_fam, .inl (cJ, 130, .inr (.inl m_fam))), ((ad 9), .inl (cI, 16, .inl m_generation)), ((ad 10), .inl (cI, 12, .inl m_level))]) ([.ref (ad 0)] : List Value).toArray s 0 0 A) (F0 m 0 ls []) by rw [hH, hlc] at hgo; exact hgo
  rw [p10_allCrossings] at hf
  have J32 : ∀ (v1_32 : Int32) (H : Heap) (locs : List Loc) (ls : Array Slot), p10_allCrossings_J32 v1_32 = some r9 → va_P (dC, dI) vwCl [(ad 0, .inr (10, oM ad m_undoCount m_thrown m_hasSnapshot a_m_fam m_rows m_lineLength m_formattedLength m_bufferLength m_limit m_next m_beginsAt m_token m_error m_errorAt m_errorPosition m_nested m_codeCount)), (a_m_fam, .inl (cJ, 130, .inr (.inl m_fam))), ((ad 9), .inl (cI, 16, .inl m_generation)), ((ad 10), .inl (cI, 12, .inl m_level))] H → va_D A [(ad 0, .inr (10, oM ad m_undoCount m_thrown m_hasSnapshot a_m_fam m_rows m_lineLength m_formattedLength m_bufferLength m_limit m_next m_beginsAt m_token m_error m_errorAt m_errorPosition m_nested m_codeCount)), (a_m_fam, .inl (cJ, 130, .inr (.inl m_fam))), ((ad 9), .inl (cI, 16, .inl m_generation)), ((ad 10), .inl (cI, 12, .inl m_level))] → va_S A s.heap H locs → lv_has ls 3 [(1, .int v1_32)] → W p l e ({ frames := 4, cells := 0, slots := 0, locals := 96 }) s m ([.ref (ad 0)] : List Value).toArray below meth c H locs 0 0 (MQ below (gQ dC dI (some (.int r9)) A [(ad 0, .inr (10, oM ad m_undoCount m_thrown m_hasSnapshot a_m_fam m_rows m_lineLength m_formattedLength m_bufferLength m_limit m_next m_beginsAt m_token m_error m_errorAt m_errorPosition m_nested m_codeCount)), (a_m_fam, .inl (cJ, 130, .inr (.inl m_fam))), ((ad 9), .inl (cI, 16, .inl m_generation)), ((ad 10), .inl (cI, 12, .inl m_level))]) ([.ref (ad 0)] : List Value).toArray s 0 0 A) (F0 m 32 ls []) := by
    intro v1_32 H locs ls hf hP hD hS hl
    rw [p10_allCrossings_J32] at hf
    refine lv_iload_n hx hb dX10_allCrossings_32 rfl (lv_at hl 0 rfl) ?_
    cases hf
    exact g_iret S hr hlocks hP hD hS dX10_allCrossings_33
  refine lv_iconst (v := 0) hx hb dX10_allCrossings_0 (by decide) ?_
  refine lv_istore_n (lv' := [(1, .int (0 : Int32)), (0, .ref (ad 0))]) hx hb dX10_allCrossings_1 rfl hl (by decide) rfl (fun ls hl => ?_)
  refine lv_iconst (v := 0) hx hb dX10_allCrossings_2 (by decide) ?_
  refine lv_istore_n (lv' := [(2, .int (0 : Int32)), (1, .int (0 : Int32)), (0, .ref (ad 0))]) hx hb dX10_allCrossings_3 rfl hl (by decide) rfl (fun ls hl => ?_)
  have K4 : ∀ (n4 : Nat) (v1_4 : Int32) (v2_4 : Int32) (ex4 : Int32) (H : Heap) (locs : List Loc) (ls : Array Slot), p10_allCrossings_L4 m_fam m_generation m_level m_rows n4 v1_4 v2_4 = some ex4 → (fun v1_x4 => p10_allCrossings_J32 v1_x4) ex4 = some r9 → va_P (dC, dI) vwCl [(ad 0, .inr (10, oM ad m_undoCount m_thrown m_hasSnapshot a_m_fam m_rows m_lineLength m_formattedLength m_bufferLength m_limit m_next m_beginsAt m_token m_error m_errorAt m_errorPosition m_nested m_codeCount)), (a_m_fam, .inl (cJ, 130, .inr (.inl m_fam))), ((ad 9), .inl (cI, 16, .inl m_generation)), ((ad 10), .inl (cI, 12, .inl m_level))] H → va_D A [(ad 0, .inr (10, oM ad m_undoCount m_thrown m_hasSnapshot a_m_fam m_rows m_lineLength m_formattedLength m_bufferLength m_limit m_next m_beginsAt m_token m_error m_errorAt m_errorPosition m_nested m_codeCount)), (a_m_fam, .inl (cJ, 130, .inr (.inl m_fam))), ((ad 9), .inl (cI, 16, .inl m_generation)), ((ad 10), .inl (cI, 12, .inl m_level))] → va_S A s.heap H locs → lv_has ls 3 [(0, .ref (ad 0)), (1, .int v1_4), (2, .int v2_4)] → W p l e ({ frames := 4, cells := 0, slots := 0, locals := 96 }) s m ([.ref (ad 0)] : List Value).toArray below meth c H locs 0 0 (MQ below (gQ dC dI (some (.int r9)) A [(ad 0, .inr (10, oM ad m_undoCount m_thrown m_hasSnapshot a_m_fam m_rows m_lineLength m_formattedLength m_bufferLength m_limit m_next m_beginsAt m_token m_error m_errorAt m_errorPosition m_nested m_codeCount)), (a_m_fam, .inl (cJ, 130, .inr (.inl m_fam))), ((ad 9), .inl (cI, 16, .inl m_generation)), ((ad 10), .inl (cI, 12, .inl m_level))]) ([.ref (ad 0)] : List Value).toArray s 0 0 A) (F0 m 4 ls []) := by
    intro n4
    induction n4 with
    | zero => intro v1_4 v2_4 ex4 H locs ls hf; rw [p10_allCrossings_L4] at hf; cases hf
    | succ n4 ih4 =>
      intro v1_4 v2_4 ex4 H locs ls hf hk4 hP hD hS hl
      rw [p10_allCrossings_L4, p10_allCrossings_L4_B] at hf
      refine lv_iload_n hx hb dX10_allCrossings_4 rfl (lv_at hl 2 rfl) ?_
      refine lv_aload_n hx hb dX10_allCrossings_5 rfl (lv_at hl 0 rfl) ?_
      refine va_get (D := (dC, dI)) (ci := 10) (v := .int m_rows) (C := RX10) (T := TX10) (N := 37) hx hb htg inX10 hown hE.1 hP 0 rfl rfl 14 (by decide) (htg _ tw1396) (fun _ h9 => h9) rfl dX10_allCrossings_6 ?_
      refine lv_icmp_ge (tgt := 32) hx hb dX10_allCrossings_9 (by decide) (fun h9 => ?_) (fun h9 => ?_)
      · have hf := itt h9 hf
        cases hf
        have hf := hk4
        exact J32 v1_4 H locs ls hf hP hD hS (lv_sub hl [1] rfl)
      · have hf := itf h9 hf
        refine lv_iload_n hx hb dX10_allCrossings_12 rfl (lv_at hl 1 rfl) ?_
        refine lv_aload_n hx hb dX10_allCrossings_13 rfl (lv_at hl 0 rfl) ?_
        refine lv_iload_n hx hb dX10_allCrossings_14 rfl (lv_at hl 2 rfl) ?_
        obtain ⟨r15, h9, hf⟩ := ob_s hf
        refine gcV (index := 172) S hE (c_X10_crossingsIn ad a_m_fam m_undoCount m_thrown m_hasSnapshot m_rows m_lineLength m_formattedLength m_bufferLength m_limit m_next m_beginsAt m_token m_error m_errorAt m_errorPosition m_nested m_codeCount m_fam m_generation m_level v2_4 r15 h9) mX10_crossingsIn tw1741 ⟨Nat.le_of_ble_eq_true rfl, Nat.le_of_ble_eq_true rfl⟩ hP hD hS hA ⟨Nat.zero_le _, Nat.zero_le _⟩ 0 10 rfl rfl rfl (wr := []) [0, 1, 2, 3] [] rfl rfl rfl rfl (by decide) (As := [.int v2_4]) (rest := [.int v1_4]) rfl hl.1 rfl (Nat.le_of_ble_eq_true rfl) dX10_allCrossings_15 (fun H locs hP hD hS => ?_)
        refine W.eq (g2 := F0 m 18 ls [.int r15, .int v1_4]) rfl ?_
        have hP : va_P (dC, dI) vwCl [(ad 0, .inr (10, oM ad m_undoCount m_thrown m_hasSnapshot a_m_fam m_rows m_lineLength m_formattedLength m_bufferLength m_limit m_next m_beginsAt m_token m_error m_errorAt m_errorPosition m_nested m_codeCount)), (a_m_fam, .inl (cJ, 130, .inr (.inl m_fam))), ((ad 9), .inl (cI, 16, .inl m_generation)), ((ad 10), .inl (cI, 12, .inl m_level))] H := hP
        have hD : va_D A [(ad 0, .inr (10, oM ad m_undoCount m_thrown m_hasSnapshot a_m_fam m_rows m_lineLength m_formattedLength m_bufferLength m_limit m_next m_beginsAt m_token m_error m_errorAt m_errorPosition m_nested m_codeCount)), (a_m_fam, .inl (cJ, 130, .inr (.inl m_fam))), ((ad 9), .inl (cI, 16, .inl m_generation)), ((ad 10), .inl (cI, 12, .inl m_level))] := hD
        refine lv_aload_n hx hb dX10_allCrossings_18 rfl (lv_at hl 0 rfl) ?_
        refine lv_iload_n hx hb dX10_allCrossings_19 rfl (lv_at hl 2 rfl) ?_
        obtain ⟨r20, h9, hf⟩ := ob_s hf
        refine gcV (index := 175) S hE (c_X10_crossingsBelow ad a_m_fam m_undoCount m_thrown m_hasSnapshot m_rows m_lineLength m_formattedLength m_bufferLength m_limit m_next m_beginsAt m_token m_error m_errorAt m_errorPosition m_nested m_codeCount m_fam m_generation m_level v2_4 r20 h9) mX10_crossingsBelow tw1753 ⟨Nat.le_of_ble_eq_true rfl, Nat.le_of_ble_eq_true rfl⟩ hP hD hS hA ⟨Nat.zero_le _, Nat.zero_le _⟩ 0 10 rfl rfl rfl (wr := []) [0, 1, 2, 3] [] rfl rfl rfl rfl (by decide) (As := [.int v2_4]) (rest := [.int r15, .int v1_4]) rfl hl.1 rfl (Nat.le_of_ble_eq_true rfl) dX10_allCrossings_20 (fun H locs hP hD hS => ?_)
        refine W.eq (g2 := F0 m 23 ls [.int r20, .int r15, .int v1_4]) rfl ?_
        have hP : va_P (dC, dI) vwCl [(ad 0, .inr (10, oM ad m_undoCount m_thrown m_hasSnapshot a_m_fam m_rows m_lineLength m_formattedLength m_bufferLength m_limit m_next m_beginsAt m_token m_error m_errorAt m_errorPosition m_nested m_codeCount)), (a_m_fam, .inl (cJ, 130, .inr (.inl m_fam))), ((ad 9), .inl (cI, 16, .inl m_generation)), ((ad 10), .inl (cI, 12, .inl m_level))] H := hP
        have hD : va_D A [(ad 0, .inr (10, oM ad m_undoCount m_thrown m_hasSnapshot a_m_fam m_rows m_lineLength m_formattedLength m_bufferLength m_limit m_next m_beginsAt m_token m_error m_errorAt m_errorPosition m_nested m_codeCount)), (a_m_fam, .inl (cJ, 130, .inr (.inl m_fam))), ((ad 9), .inl (cI, 16, .inl m_generation)), ((ad 10), .inl (cI, 12, .inl m_level))] := hD
        refine lv_iadd hx hb dX10_allCrossings_23 ?_
        refine lv_iadd hx hb dX10_allCrossings_24 ?_
        refine lv_topi (fun t25 h9 => ?_)
        have hf := lb_e h9 hf
        refine lv_istore_n (lv' := [(1, .int t25), (0, .ref (ad 0)), (2, .int v2_4)]) hx hb dX10_allCrossings_25 rfl hl (by decide) rfl (fun ls hl => ?_)
        obtain ⟨t26, h9⟩ : ∃ z : Int32, z = (v2_4 + (1 : Int32)) := ⟨_, rfl⟩
        have hf := lb_e h9 hf
        refine lv_iinc (v := t26) (lv' := [(2, .int t26), (1, .int t25), (0, .ref (ad 0))]) hx hb dX10_allCrossings_26 hl (k := 2) rfl (by rw [h9]; rfl) (by decide) rfl (fun ls hl => ?_)
        refine lv_goto (tgt := 4) hx hb dX10_allCrossings_29 (by decide) ?_
        exact ih4 t25 t26 ex4 H locs ls hf hk4 hP hD hS (lv_sub hl [2, 1, 0] rfl)
  obtain ⟨ex, h9, hf⟩ := ob_s hf
  exact K4 FU (0 : Int32) (0 : Int32) ex H locs ls h9 hf hP hD hS (lv_sub hl [2, 1, 0] rfl)
set_option maxHeartbeats 4000000 in
set_option maxRecDepth 100000 in
theorem c_X10_widthOf (ad : Nat → Nat) (a_m_fam : Nat) (m_undoCount : Int32) (m_thrown : Int32) (m_hasSnapshot : Bool) (m_rows : Int32) (m_lineLength : Int32) (m_formattedLength : Int32) (m_bufferLength : Int32) (m_limit : Int32) (m_next : Int32) (m_beginsAt : Int32) (m_token : Int32) (m_error : Int32) (m_errorAt : Int32) (m_errorPosition : Int32) (m_nested : Int32) (m_codeCount : Int32) (m_fam : Nat → Int64) (m_generation : Nat → Int32) (m_level : Nat → Int32) (v1 : Int32) (r9 : Int32) (hf : p10_widthOf m_fam m_generation m_level v1 = some r9) : gM l dC dI cI cJ cZ yX10_widthOf cX10_widthOf 2 (some .int) (3) (66) [.ref (ad 0), .int v1] [(ad 0, .inr (10, oM ad m_undoCount m_thrown m_hasSnapshot a_m_fam m_rows m_lineLength m_formattedLength m_bufferLength m_limit m_next m_beginsAt m_token m_error m_errorAt m_errorPosition m_nested m_codeCount)), (a_m_fam, .inl (cJ, 130, .inr (.inl m_fam))), ((ad 9), .inl (cI, 16, .inl m_generation)), ((ad 10), .inl (cI, 12, .inl m_level))] [(ad 0, .inr (10, oM ad m_undoCount m_thrown m_hasSnapshot a_m_fam m_rows m_lineLength m_formattedLength m_bufferLength m_limit m_next m_beginsAt m_token m_error m_errorAt m_errorPosition m_nested m_codeCount)), (a_m_fam, .inl (cJ, 130, .inr (.inl m_fam))), ((ad 9), .inl (cI, 16, .inl m_generation)), ((ad 10), .inl (cI, 12, .inl m_level))] (some (.int r9)) := by
  refine g_start (own := RX10) (by decide +kernel) rfl (Nat.le_of_ble_eq_true rfl) ?_
  intro p e s m below meth c A ls S hr hlocks hE hP hD hS hA hl hin
  have hx := S.1
  have hb := S.2.1
  have hml := S.2.2.1
  have hown := S.2.2.2.1
  have htg : ∀ z ∈ gw, z.before ([.ref (ad 0), .int v1] : List Value).toArray s = true := fun w h => S.2.2.2.2 w (List.mem_cons_of_mem _ h)
  have hl : lv_has ls 2 [(0, .ref (ad 0)), (1, .int v1)] := hl
  have hS0 := hS
  obtain ⟨H, hH⟩ : ∃ H, H = s.heap := ⟨_, rfl⟩
  obtain ⟨locs, hlc⟩ : ∃ locs : List Loc, locs = [] := ⟨_, rfl⟩
  have hS : va_S A s.heap H locs := by rw [hH, hlc]; exact hS0
  have hP : va_P (dC, dI) vwCl [(ad 0, .inr (10, oM ad m_undoCount m_thrown m_hasSnapshot a_m_fam m_rows m_lineLength m_formattedLength m_bufferLength m_limit m_next m_beginsAt m_token m_error m_errorAt m_errorPosition m_nested m_codeCount)), (a_m_fam, .inl (cJ, 130, .inr (.inl m_fam))), ((ad 9), .inl (cI, 16, .inl m_generation)), ((ad 10), .inl (cI, 12, .inl m_level))] H := by rw [hH]; exact hP
  suffices hgo : W p l e ({ frames := 3, cells := 0, slots := 0, locals := 66 }) s m ([.ref (ad 0), .int v1] : List Value).toArray below meth c H locs 0 0 (MQ below (gQ dC dI (some (.int r9)) A [(ad 0, .inr (10, oM ad m_undoCount m_thrown m_hasSnapshot a_m_fam m_rows m_lineLength m_formattedLength m_bufferLength m_limit m_next m_beginsAt m_token m_error m_errorAt m_errorPosition m_nested m_codeCount)), (a_m_fam, .inl (cJ, 130, .inr (.inl m_fam))), ((ad 9), .inl (cI, 16, .inl m_generation)), ((ad 10), .inl (cI, 12, .inl m_level))]) ([.ref (ad 0), .int v1] : List Value).toArray s 0 0 A) (F0 m 0 ls []) by rw [hH, hlc] at hgo; exact hgo
  rw [p10_widthOf] at hf
  refine lv_aload_n hx hb dX10_widthOf_0 rfl (lv_at hl 0 rfl) ?_
  refine lv_aload_n hx hb dX10_widthOf_1 rfl (lv_at hl 0 rfl) ?_
  refine lv_iload_n hx hb dX10_widthOf_2 rfl (lv_at hl 1 rfl) ?_
  obtain ⟨r3, h9, hf⟩ := ob_s hf
  refine gcV (index := 178) S hE (c_X10_personOf ad a_m_fam m_undoCount m_thrown m_hasSnapshot m_rows m_lineLength m_formattedLength m_bufferLength m_limit m_next m_beginsAt m_token m_error m_errorAt m_errorPosition m_nested m_codeCount m_fam m_generation m_level v1 r3 h9) mX10_personOf tw1629 ⟨Nat.le_of_ble_eq_true rfl, Nat.le_of_ble_eq_true rfl⟩ hP hD hS hA ⟨Nat.zero_le _, Nat.zero_le _⟩ 0 10 rfl rfl rfl (wr := []) [0, 1, 2, 3] [] rfl rfl rfl rfl (by decide) (As := [.int v1]) (rest := [.ref (ad 0)]) rfl hl.1 rfl (Nat.le_of_ble_eq_true rfl) dX10_widthOf_3 (fun H locs hP hD hS => ?_)
  refine W.eq (g2 := F0 m 6 ls [.int r3, .ref (ad 0)]) rfl ?_
  have hP : va_P (dC, dI) vwCl [(ad 0, .inr (10, oM ad m_undoCount m_thrown m_hasSnapshot a_m_fam m_rows m_lineLength m_formattedLength m_bufferLength m_limit m_next m_beginsAt m_token m_error m_errorAt m_errorPosition m_nested m_codeCount)), (a_m_fam, .inl (cJ, 130, .inr (.inl m_fam))), ((ad 9), .inl (cI, 16, .inl m_generation)), ((ad 10), .inl (cI, 12, .inl m_level))] H := hP
  have hD : va_D A [(ad 0, .inr (10, oM ad m_undoCount m_thrown m_hasSnapshot a_m_fam m_rows m_lineLength m_formattedLength m_bufferLength m_limit m_next m_beginsAt m_token m_error m_errorAt m_errorPosition m_nested m_codeCount)), (a_m_fam, .inl (cJ, 130, .inr (.inl m_fam))), ((ad 9), .inl (cI, 16, .inl m_generation)), ((ad 10), .inl (cI, 12, .inl m_level))] := hD
  refine lv_iconst (v := 3) hx hb dX10_widthOf_6 (by decide) ?_
  obtain ⟨r7, h9, hf⟩ := ob_s hf
  refine gcV (index := 98) S hE (c_X10_ofPerson ad a_m_fam m_undoCount m_thrown m_hasSnapshot m_rows m_lineLength m_formattedLength m_bufferLength m_limit m_next m_beginsAt m_token m_error m_errorAt m_errorPosition m_nested m_codeCount m_fam r3 (3 : Int32) r7 h9) mX10_ofPerson tw1519 ⟨Nat.le_of_ble_eq_true rfl, Nat.le_of_ble_eq_true rfl⟩ hP hD hS hA ⟨Nat.zero_le _, Nat.zero_le _⟩ 0 10 rfl rfl rfl (wr := [((ad 9), .inl (cI, 16, .inl m_generation)), ((ad 10), .inl (cI, 12, .inl m_level))]) [0, 1] [2, 3] rfl rfl rfl rfl (by decide) (As := [.int r3, .int (3 : Int32)]) (rest := []) rfl hl.1 rfl (Nat.le_of_ble_eq_true rfl) dX10_widthOf_7 (fun H locs hP hD hS => ?_)
  refine W.eq (g2 := F0 m 10 ls [.long r7]) rfl ?_
  have hP : va_P (dC, dI) vwCl [((ad 9), .inl (cI, 16, .inl m_generation)), ((ad 10), .inl (cI, 12, .inl m_level)), (ad 0, .inr (10, oM ad m_undoCount m_thrown m_hasSnapshot a_m_fam m_rows m_lineLength m_formattedLength m_bufferLength m_limit m_next m_beginsAt m_token m_error m_errorAt m_errorPosition m_nested m_codeCount)), (a_m_fam, .inl (cJ, 130, .inr (.inl m_fam)))] H := hP
  have hD : va_D A [((ad 9), .inl (cI, 16, .inl m_generation)), ((ad 10), .inl (cI, 12, .inl m_level)), (ad 0, .inr (10, oM ad m_undoCount m_thrown m_hasSnapshot a_m_fam m_rows m_lineLength m_formattedLength m_bufferLength m_limit m_next m_beginsAt m_token m_error m_errorAt m_errorPosition m_nested m_codeCount)), (a_m_fam, .inl (cJ, 130, .inr (.inl m_fam)))] := hD
  refine lv_l2i hx hb dX10_widthOf_10 rfl ?_
  refine lv_iconst (v := 2) hx hb dX10_widthOf_11 (by decide) ?_
  refine lv_iadd hx hb dX10_widthOf_12 ?_
  cases hf
  exact g_iret S hr hlocks (hP.sub [2, 3, 0, 1] rfl) (hD.sub [2, 3, 0, 1] (by decide) rfl) hS dX10_widthOf_13
set_option maxHeartbeats 4000000 in
set_option maxRecDepth 100000 in
theorem c_X10_middleColumn (ad : Nat → Nat) (a_m_fam : Nat) (m_undoCount : Int32) (m_thrown : Int32) (m_hasSnapshot : Bool) (m_rows : Int32) (m_lineLength : Int32) (m_formattedLength : Int32) (m_bufferLength : Int32) (m_limit : Int32) (m_next : Int32) (m_beginsAt : Int32) (m_token : Int32) (m_error : Int32) (m_errorAt : Int32) (m_errorPosition : Int32) (m_nested : Int32) (m_codeCount : Int32) (m_column : Nat → Int32) (m_fam : Nat → Int64) (m_generation : Nat → Int32) (m_level : Nat → Int32) (v1 : Int32) (r9 : Int32) (hf : p10_middleColumn m_column m_fam m_generation m_level v1 = some r9) : gM l dC dI cI cJ cZ yX10_middleColumn cX10_middleColumn 2 (some .int) (4) (87) [.ref (ad 0), .int v1] [(ad 0, .inr (10, oM ad m_undoCount m_thrown m_hasSnapshot a_m_fam m_rows m_lineLength m_formattedLength m_bufferLength m_limit m_next m_beginsAt m_token m_error m_errorAt m_errorPosition m_nested m_codeCount)), ((ad 16), .inl (cI, 28, .inl m_column)), (a_m_fam, .inl (cJ, 130, .inr (.inl m_fam))), ((ad 9), .inl (cI, 16, .inl m_generation)), ((ad 10), .inl (cI, 12, .inl m_level))] [(ad 0, .inr (10, oM ad m_undoCount m_thrown m_hasSnapshot a_m_fam m_rows m_lineLength m_formattedLength m_bufferLength m_limit m_next m_beginsAt m_token m_error m_errorAt m_errorPosition m_nested m_codeCount)), ((ad 16), .inl (cI, 28, .inl m_column)), (a_m_fam, .inl (cJ, 130, .inr (.inl m_fam))), ((ad 9), .inl (cI, 16, .inl m_generation)), ((ad 10), .inl (cI, 12, .inl m_level))] (some (.int r9)) := by
  refine g_start (own := RX10) (by decide +kernel) rfl (Nat.le_of_ble_eq_true rfl) ?_
  intro p e s m below meth c A ls S hr hlocks hE hP hD hS hA hl hin
  have hx := S.1
  have hb := S.2.1
  have hml := S.2.2.1
  have hown := S.2.2.2.1
  have htg : ∀ z ∈ gw, z.before ([.ref (ad 0), .int v1] : List Value).toArray s = true := fun w h => S.2.2.2.2 w (List.mem_cons_of_mem _ h)
  have hl : lv_has ls 2 [(0, .ref (ad 0)), (1, .int v1)] := hl
  have hS0 := hS
  obtain ⟨H, hH⟩ : ∃ H, H = s.heap := ⟨_, rfl⟩
  obtain ⟨locs, hlc⟩ : ∃ locs : List Loc, locs = [] := ⟨_, rfl⟩
  have hS : va_S A s.heap H locs := by rw [hH, hlc]; exact hS0
  have hP : va_P (dC, dI) vwCl [(ad 0, .inr (10, oM ad m_undoCount m_thrown m_hasSnapshot a_m_fam m_rows m_lineLength m_formattedLength m_bufferLength m_limit m_next m_beginsAt m_token m_error m_errorAt m_errorPosition m_nested m_codeCount)), ((ad 16), .inl (cI, 28, .inl m_column)), (a_m_fam, .inl (cJ, 130, .inr (.inl m_fam))), ((ad 9), .inl (cI, 16, .inl m_generation)), ((ad 10), .inl (cI, 12, .inl m_level))] H := by rw [hH]; exact hP
  suffices hgo : W p l e ({ frames := 4, cells := 0, slots := 0, locals := 87 }) s m ([.ref (ad 0), .int v1] : List Value).toArray below meth c H locs 0 0 (MQ below (gQ dC dI (some (.int r9)) A [(ad 0, .inr (10, oM ad m_undoCount m_thrown m_hasSnapshot a_m_fam m_rows m_lineLength m_formattedLength m_bufferLength m_limit m_next m_beginsAt m_token m_error m_errorAt m_errorPosition m_nested m_codeCount)), ((ad 16), .inl (cI, 28, .inl m_column)), (a_m_fam, .inl (cJ, 130, .inr (.inl m_fam))), ((ad 9), .inl (cI, 16, .inl m_generation)), ((ad 10), .inl (cI, 12, .inl m_level))]) ([.ref (ad 0), .int v1] : List Value).toArray s 0 0 A) (F0 m 0 ls []) by rw [hH, hlc] at hgo; exact hgo
  rw [p10_middleColumn] at hf
  refine lv_aload_n hx hb dX10_middleColumn_0 rfl (lv_at hl 0 rfl) ?_
  refine va_get (D := (dC, dI)) (ci := 10) (v := .ref (ad 16)) (C := RX10) (T := TX10) (N := 37) hx hb htg inX10 hown hE.1 hP 0 rfl rfl 15 (by decide) (htg _ tw1397) (fun _ h9 => h9) rfl dX10_middleColumn_1 ?_
  refine lv_iload_n hx hb dX10_middleColumn_4 rfl (lv_at hl 1 rfl) ?_
  obtain ⟨h9, hf⟩ := gd_s hf
  refine va_iald hx hb hE.1 hP 1 0 rfl rfl h9 dX10_middleColumn_5 ?_
  refine lv_aload_n hx hb dX10_middleColumn_6 rfl (lv_at hl 0 rfl) ?_
  refine lv_iload_n hx hb dX10_middleColumn_7 rfl (lv_at hl 1 rfl) ?_
  obtain ⟨r8, h9, hf⟩ := ob_s hf
  refine gcV (index := 181) S hE (c_X10_widthOf ad a_m_fam m_undoCount m_thrown m_hasSnapshot m_rows m_lineLength m_formattedLength m_bufferLength m_limit m_next m_beginsAt m_token m_error m_errorAt m_errorPosition m_nested m_codeCount m_fam m_generation m_level v1 r8 h9) mX10_widthOf tw1625 ⟨Nat.le_of_ble_eq_true rfl, Nat.le_of_ble_eq_true rfl⟩ hP hD hS hA ⟨Nat.zero_le _, Nat.zero_le _⟩ 0 10 rfl rfl rfl (wr := [((ad 16), .inl (cI, 28, .inl m_column))]) [0, 2, 3, 4] [1] rfl rfl rfl rfl (by decide) (As := [.int v1]) (rest := [.int (m_column v1.toNatClampNeg)]) rfl hl.1 rfl (Nat.le_of_ble_eq_true rfl) dX10_middleColumn_8 (fun H locs hP hD hS => ?_)
  refine W.eq (g2 := F0 m 11 ls [.int r8, .int (m_column v1.toNatClampNeg)]) rfl ?_
  have hP : va_P (dC, dI) vwCl [((ad 16), .inl (cI, 28, .inl m_column)), (ad 0, .inr (10, oM ad m_undoCount m_thrown m_hasSnapshot a_m_fam m_rows m_lineLength m_formattedLength m_bufferLength m_limit m_next m_beginsAt m_token m_error m_errorAt m_errorPosition m_nested m_codeCount)), (a_m_fam, .inl (cJ, 130, .inr (.inl m_fam))), ((ad 9), .inl (cI, 16, .inl m_generation)), ((ad 10), .inl (cI, 12, .inl m_level))] H := hP
  have hD : va_D A [((ad 16), .inl (cI, 28, .inl m_column)), (ad 0, .inr (10, oM ad m_undoCount m_thrown m_hasSnapshot a_m_fam m_rows m_lineLength m_formattedLength m_bufferLength m_limit m_next m_beginsAt m_token m_error m_errorAt m_errorPosition m_nested m_codeCount)), (a_m_fam, .inl (cJ, 130, .inr (.inl m_fam))), ((ad 9), .inl (cI, 16, .inl m_generation)), ((ad 10), .inl (cI, 12, .inl m_level))] := hD
  refine lv_iconst (v := 2) hx hb dX10_middleColumn_11 (by decide) ?_
  refine lv_idiv hx hb dX10_middleColumn_12 (by decide) ?_
  refine lv_iadd hx hb dX10_middleColumn_13 ?_
  cases hf
  exact g_iret S hr hlocks (hP.sub [1, 0, 2, 3, 4] rfl) (hD.sub [1, 0, 2, 3, 4] (by decide) rfl) hS dX10_middleColumn_14
set_option maxHeartbeats 4000000 in
set_option maxRecDepth 100000 in
theorem c_X10_unionColumn (ad : Nat → Nat) (a_m_fam : Nat) (m_undoCount : Int32) (m_thrown : Int32) (m_hasSnapshot : Bool) (m_rows : Int32) (m_lineLength : Int32) (m_formattedLength : Int32) (m_bufferLength : Int32) (m_limit : Int32) (m_next : Int32) (m_beginsAt : Int32) (m_token : Int32) (m_error : Int32) (m_errorAt : Int32) (m_errorPosition : Int32) (m_nested : Int32) (m_codeCount : Int32) (m_column : Nat → Int32) (m_fam : Nat → Int64) (m_generation : Nat → Int32) (m_level : Nat → Int32) (v1 : Int32) (r9 : Int32) (hf : p10_unionColumn m_column m_fam m_generation m_level v1 = some r9) : gM l dC dI cI cJ cZ yX10_unionColumn cX10_unionColumn 2 (some .int) (5) (108) [.ref (ad 0), .int v1] [(ad 0, .inr (10, oM ad m_undoCount m_thrown m_hasSnapshot a_m_fam m_rows m_lineLength m_formattedLength m_bufferLength m_limit m_next m_beginsAt m_token m_error m_errorAt m_errorPosition m_nested m_codeCount)), ((ad 16), .inl (cI, 28, .inl m_column)), (a_m_fam, .inl (cJ, 130, .inr (.inl m_fam))), ((ad 9), .inl (cI, 16, .inl m_generation)), ((ad 10), .inl (cI, 12, .inl m_level))] [(ad 0, .inr (10, oM ad m_undoCount m_thrown m_hasSnapshot a_m_fam m_rows m_lineLength m_formattedLength m_bufferLength m_limit m_next m_beginsAt m_token m_error m_errorAt m_errorPosition m_nested m_codeCount)), ((ad 16), .inl (cI, 28, .inl m_column)), (a_m_fam, .inl (cJ, 130, .inr (.inl m_fam))), ((ad 9), .inl (cI, 16, .inl m_generation)), ((ad 10), .inl (cI, 12, .inl m_level))] (some (.int r9)) := by
  refine g_start (own := RX10) (by decide +kernel) rfl (Nat.le_of_ble_eq_true rfl) ?_
  intro p e s m below meth c A ls S hr hlocks hE hP hD hS hA hl hin
  have hx := S.1
  have hb := S.2.1
  have hml := S.2.2.1
  have hown := S.2.2.2.1
  have htg : ∀ z ∈ gw, z.before ([.ref (ad 0), .int v1] : List Value).toArray s = true := fun w h => S.2.2.2.2 w (List.mem_cons_of_mem _ h)
  have hl : lv_has ls 2 [(0, .ref (ad 0)), (1, .int v1)] := hl
  have hS0 := hS
  obtain ⟨H, hH⟩ : ∃ H, H = s.heap := ⟨_, rfl⟩
  obtain ⟨locs, hlc⟩ : ∃ locs : List Loc, locs = [] := ⟨_, rfl⟩
  have hS : va_S A s.heap H locs := by rw [hH, hlc]; exact hS0
  have hP : va_P (dC, dI) vwCl [(ad 0, .inr (10, oM ad m_undoCount m_thrown m_hasSnapshot a_m_fam m_rows m_lineLength m_formattedLength m_bufferLength m_limit m_next m_beginsAt m_token m_error m_errorAt m_errorPosition m_nested m_codeCount)), ((ad 16), .inl (cI, 28, .inl m_column)), (a_m_fam, .inl (cJ, 130, .inr (.inl m_fam))), ((ad 9), .inl (cI, 16, .inl m_generation)), ((ad 10), .inl (cI, 12, .inl m_level))] H := by rw [hH]; exact hP
  suffices hgo : W p l e ({ frames := 5, cells := 0, slots := 0, locals := 108 }) s m ([.ref (ad 0), .int v1] : List Value).toArray below meth c H locs 0 0 (MQ below (gQ dC dI (some (.int r9)) A [(ad 0, .inr (10, oM ad m_undoCount m_thrown m_hasSnapshot a_m_fam m_rows m_lineLength m_formattedLength m_bufferLength m_limit m_next m_beginsAt m_token m_error m_errorAt m_errorPosition m_nested m_codeCount)), ((ad 16), .inl (cI, 28, .inl m_column)), (a_m_fam, .inl (cJ, 130, .inr (.inl m_fam))), ((ad 9), .inl (cI, 16, .inl m_generation)), ((ad 10), .inl (cI, 12, .inl m_level))]) ([.ref (ad 0), .int v1] : List Value).toArray s 0 0 A) (F0 m 0 ls []) by rw [hH, hlc] at hgo; exact hgo
  rw [p10_unionColumn] at hf
  refine lv_aload_n hx hb dX10_unionColumn_0 rfl (lv_at hl 0 rfl) ?_
  refine lv_aload_n hx hb dX10_unionColumn_1 rfl (lv_at hl 0 rfl) ?_
  refine lv_iload_n hx hb dX10_unionColumn_2 rfl (lv_at hl 1 rfl) ?_
  refine lv_iconst (v := 0) hx hb dX10_unionColumn_3 (by decide) ?_
  obtain ⟨r4, h9, hf⟩ := ob_s hf
  refine gcV (index := 150) S hE (c_X10_partnerBox ad a_m_fam m_undoCount m_thrown m_hasSnapshot m_rows m_lineLength m_formattedLength m_bufferLength m_limit m_next m_beginsAt m_token m_error m_errorAt m_errorPosition m_nested m_codeCount m_fam m_generation m_level v1 (0 : Int32) r4 h9) mX10_partnerBox tw1617 ⟨Nat.le_of_ble_eq_true rfl, Nat.le_of_ble_eq_true rfl⟩ hP hD hS hA ⟨Nat.zero_le _, Nat.zero_le _⟩ 0 10 rfl rfl rfl (wr := [((ad 16), .inl (cI, 28, .inl m_column))]) [0, 2, 3, 4] [1] rfl rfl rfl rfl (by decide) (As := [.int v1, .int (0 : Int32)]) (rest := [.ref (ad 0)]) rfl hl.1 rfl (Nat.le_of_ble_eq_true rfl) dX10_unionColumn_4 (fun H locs hP hD hS => ?_)
  refine W.eq (g2 := F0 m 7 ls [.int r4, .ref (ad 0)]) rfl ?_
  have hP : va_P (dC, dI) vwCl [((ad 16), .inl (cI, 28, .inl m_column)), (ad 0, .inr (10, oM ad m_undoCount m_thrown m_hasSnapshot a_m_fam m_rows m_lineLength m_formattedLength m_bufferLength m_limit m_next m_beginsAt m_token m_error m_errorAt m_errorPosition m_nested m_codeCount)), (a_m_fam, .inl (cJ, 130, .inr (.inl m_fam))), ((ad 9), .inl (cI, 16, .inl m_generation)), ((ad 10), .inl (cI, 12, .inl m_level))] H := hP
  have hD : va_D A [((ad 16), .inl (cI, 28, .inl m_column)), (ad 0, .inr (10, oM ad m_undoCount m_thrown m_hasSnapshot a_m_fam m_rows m_lineLength m_formattedLength m_bufferLength m_limit m_next m_beginsAt m_token m_error m_errorAt m_errorPosition m_nested m_codeCount)), (a_m_fam, .inl (cJ, 130, .inr (.inl m_fam))), ((ad 9), .inl (cI, 16, .inl m_generation)), ((ad 10), .inl (cI, 12, .inl m_level))] := hD
  obtain ⟨r7, h9, hf⟩ := ob_s hf
  refine gcV (index := 184) S hE (c_X10_middleColumn ad a_m_fam m_undoCount m_thrown m_hasSnapshot m_rows m_lineLength m_formattedLength m_bufferLength m_limit m_next m_beginsAt m_token m_error m_errorAt m_errorPosition m_nested m_codeCount m_column m_fam m_generation m_level r4 r7 h9) mX10_middleColumn tw1621 ⟨Nat.le_of_ble_eq_true rfl, Nat.le_of_ble_eq_true rfl⟩ hP hD hS hA ⟨Nat.zero_le _, Nat.zero_le _⟩ 1 10 rfl rfl rfl (wr := []) [1, 0, 2, 3, 4] [] rfl rfl rfl rfl (by decide) (As := [.int r4]) (rest := []) rfl hl.1 rfl (Nat.le_of_ble_eq_true rfl) dX10_unionColumn_7 (fun H locs hP hD hS => ?_)
  refine W.eq (g2 := F0 m 10 ls [.int r7]) rfl ?_
  have hP : va_P (dC, dI) vwCl [(ad 0, .inr (10, oM ad m_undoCount m_thrown m_hasSnapshot a_m_fam m_rows m_lineLength m_formattedLength m_bufferLength m_limit m_next m_beginsAt m_token m_error m_errorAt m_errorPosition m_nested m_codeCount)), ((ad 16), .inl (cI, 28, .inl m_column)), (a_m_fam, .inl (cJ, 130, .inr (.inl m_fam))), ((ad 9), .inl (cI, 16, .inl m_generation)), ((ad 10), .inl (cI, 12, .inl m_level))] H := hP
  have hD : va_D A [(ad 0, .inr (10, oM ad m_undoCount m_thrown m_hasSnapshot a_m_fam m_rows m_lineLength m_formattedLength m_bufferLength m_limit m_next m_beginsAt m_token m_error m_errorAt m_errorPosition m_nested m_codeCount)), ((ad 16), .inl (cI, 28, .inl m_column)), (a_m_fam, .inl (cJ, 130, .inr (.inl m_fam))), ((ad 9), .inl (cI, 16, .inl m_generation)), ((ad 10), .inl (cI, 12, .inl m_level))] := hD
  refine lv_aload_n hx hb dX10_unionColumn_10 rfl (lv_at hl 0 rfl) ?_
  refine lv_aload_n hx hb dX10_unionColumn_11 rfl (lv_at hl 0 rfl) ?_
  refine lv_iload_n hx hb dX10_unionColumn_12 rfl (lv_at hl 1 rfl) ?_
  refine lv_iconst (v := 1) hx hb dX10_unionColumn_13 (by decide) ?_
  obtain ⟨r14, h9, hf⟩ := ob_s hf
  refine gcV (index := 150) S hE (c_X10_partnerBox ad a_m_fam m_undoCount m_thrown m_hasSnapshot m_rows m_lineLength m_formattedLength m_bufferLength m_limit m_next m_beginsAt m_token m_error m_errorAt m_errorPosition m_nested m_codeCount m_fam m_generation m_level v1 (1 : Int32) r14 h9) mX10_partnerBox tw1617 ⟨Nat.le_of_ble_eq_true rfl, Nat.le_of_ble_eq_true rfl⟩ hP hD hS hA ⟨Nat.zero_le _, Nat.zero_le _⟩ 0 10 rfl rfl rfl (wr := [((ad 16), .inl (cI, 28, .inl m_column))]) [0, 2, 3, 4] [1] rfl rfl rfl rfl (by decide) (As := [.int v1, .int (1 : Int32)]) (rest := [.ref (ad 0), .int r7]) rfl hl.1 rfl (Nat.le_of_ble_eq_true rfl) dX10_unionColumn_14 (fun H locs hP hD hS => ?_)
  refine W.eq (g2 := F0 m 17 ls [.int r14, .ref (ad 0), .int r7]) rfl ?_
  have hP : va_P (dC, dI) vwCl [((ad 16), .inl (cI, 28, .inl m_column)), (ad 0, .inr (10, oM ad m_undoCount m_thrown m_hasSnapshot a_m_fam m_rows m_lineLength m_formattedLength m_bufferLength m_limit m_next m_beginsAt m_token m_error m_errorAt m_errorPosition m_nested m_codeCount)), (a_m_fam, .inl (cJ, 130, .inr (.inl m_fam))), ((ad 9), .inl (cI, 16, .inl m_generation)), ((ad 10), .inl (cI, 12, .inl m_level))] H := hP
  have hD : va_D A [((ad 16), .inl (cI, 28, .inl m_column)), (ad 0, .inr (10, oM ad m_undoCount m_thrown m_hasSnapshot a_m_fam m_rows m_lineLength m_formattedLength m_bufferLength m_limit m_next m_beginsAt m_token m_error m_errorAt m_errorPosition m_nested m_codeCount)), (a_m_fam, .inl (cJ, 130, .inr (.inl m_fam))), ((ad 9), .inl (cI, 16, .inl m_generation)), ((ad 10), .inl (cI, 12, .inl m_level))] := hD
  obtain ⟨r17, h9, hf⟩ := ob_s hf
  refine gcV (index := 184) S hE (c_X10_middleColumn ad a_m_fam m_undoCount m_thrown m_hasSnapshot m_rows m_lineLength m_formattedLength m_bufferLength m_limit m_next m_beginsAt m_token m_error m_errorAt m_errorPosition m_nested m_codeCount m_column m_fam m_generation m_level r14 r17 h9) mX10_middleColumn tw1621 ⟨Nat.le_of_ble_eq_true rfl, Nat.le_of_ble_eq_true rfl⟩ hP hD hS hA ⟨Nat.zero_le _, Nat.zero_le _⟩ 1 10 rfl rfl rfl (wr := []) [1, 0, 2, 3, 4] [] rfl rfl rfl rfl (by decide) (As := [.int r14]) (rest := [.int r7]) rfl hl.1 rfl (Nat.le_of_ble_eq_true rfl) dX10_unionColumn_17 (fun H locs hP hD hS => ?_)
  refine W.eq (g2 := F0 m 20 ls [.int r17, .int r7]) rfl ?_
  have hP : va_P (dC, dI) vwCl [(ad 0, .inr (10, oM ad m_undoCount m_thrown m_hasSnapshot a_m_fam m_rows m_lineLength m_formattedLength m_bufferLength m_limit m_next m_beginsAt m_token m_error m_errorAt m_errorPosition m_nested m_codeCount)), ((ad 16), .inl (cI, 28, .inl m_column)), (a_m_fam, .inl (cJ, 130, .inr (.inl m_fam))), ((ad 9), .inl (cI, 16, .inl m_generation)), ((ad 10), .inl (cI, 12, .inl m_level))] H := hP
  have hD : va_D A [(ad 0, .inr (10, oM ad m_undoCount m_thrown m_hasSnapshot a_m_fam m_rows m_lineLength m_formattedLength m_bufferLength m_limit m_next m_beginsAt m_token m_error m_errorAt m_errorPosition m_nested m_codeCount)), ((ad 16), .inl (cI, 28, .inl m_column)), (a_m_fam, .inl (cJ, 130, .inr (.inl m_fam))), ((ad 9), .inl (cI, 16, .inl m_generation)), ((ad 10), .inl (cI, 12, .inl m_level))] := hD
  refine lv_iadd hx hb dX10_unionColumn_20 ?_
  refine lv_iconst (v := 2) hx hb dX10_unionColumn_21 (by decide) ?_
  refine lv_idiv hx hb dX10_unionColumn_22 (by decide) ?_
  cases hf
  exact g_iret S hr hlocks hP hD hS dX10_unionColumn_23
set_option maxHeartbeats 4000000 in
set_option maxRecDepth 100000 in
theorem c_X10_wanted (ad : Nat → Nat) (a_m_fam : Nat) (m_undoCount : Int32) (m_thrown : Int32) (m_hasSnapshot : Bool) (m_rows : Int32) (m_lineLength : Int32) (m_formattedLength : Int32) (m_bufferLength : Int32) (m_limit : Int32) (m_next : Int32) (m_beginsAt : Int32) (m_token : Int32) (m_error : Int32) (m_errorAt : Int32) (m_errorPosition : Int32) (m_nested : Int32) (m_codeCount : Int32) (m_column : Nat → Int32) (m_fam : Nat → Int64) (m_generation : Nat → Int32) (m_level : Nat → Int32) (v1 : Int32) (r9 : Int32) (hf : p10_wanted m_column m_fam m_generation m_level v1 = some r9) : gM l dC dI cI cJ cZ yX10_wanted cX10_wanted 3 (some .int) (6) (129) [.ref (ad 0), .int v1] [(ad 0, .inr (10, oM ad m_undoCount m_thrown m_hasSnapshot a_m_fam m_rows m_lineLength m_formattedLength m_bufferLength m_limit m_next m_beginsAt m_token m_error m_errorAt m_errorPosition m_nested m_codeCount)), ((ad 16), .inl (cI, 28, .inl m_column)), (a_m_fam, .inl (cJ, 130, .inr (.inl m_fam))), ((ad 9), .inl (cI, 16, .inl m_generation)), ((ad 10), .inl (cI, 12, .inl m_level))] [(ad 0, .inr (10, oM ad m_undoCount m_thrown m_hasSnapshot a_m_fam m_rows m_lineLength m_formattedLength m_bufferLength m_limit m_next m_beginsAt m_token m_error m_errorAt m_errorPosition m_nested m_codeCount)), ((ad 16), .inl (cI, 28, .inl m_column)), (a_m_fam, .inl (cJ, 130, .inr (.inl m_fam))), ((ad 9), .inl (cI, 16, .inl m_generation)), ((ad 10), .inl (cI, 12, .inl m_level))] (some (.int r9)) := by
  refine g_start (own := RX10) (by decide +kernel) rfl (Nat.le_of_ble_eq_true rfl) ?_
  intro p e s m below meth c A ls S hr hlocks hE hP hD hS hA hl hin
  have hx := S.1
  have hb := S.2.1
  have hml := S.2.2.1
  have hown := S.2.2.2.1
  have htg : ∀ z ∈ gw, z.before ([.ref (ad 0), .int v1] : List Value).toArray s = true := fun w h => S.2.2.2.2 w (List.mem_cons_of_mem _ h)
  have hl : lv_has ls 3 [(0, .ref (ad 0)), (1, .int v1)] := hl
  have hS0 := hS
  obtain ⟨H, hH⟩ : ∃ H, H = s.heap := ⟨_, rfl⟩
  obtain ⟨locs, hlc⟩ : ∃ locs : List Loc, locs = [] := ⟨_, rfl⟩
  have hS : va_S A s.heap H locs := by rw [hH, hlc]; exact hS0
  have hP : va_P (dC, dI) vwCl [(ad 0, .inr (10, oM ad m_undoCount m_thrown m_hasSnapshot a_m_fam m_rows m_lineLength m_formattedLength m_bufferLength m_limit m_next m_beginsAt m_token m_error m_errorAt m_errorPosition m_nested m_codeCount)), ((ad 16), .inl (cI, 28, .inl m_column)), (a_m_fam, .inl (cJ, 130, .inr (.inl m_fam))), ((ad 9), .inl (cI, 16, .inl m_generation)), ((ad 10), .inl (cI, 12, .inl m_level))] H := by rw [hH]; exact hP
  suffices hgo : W p l e ({ frames := 6, cells := 0, slots := 0, locals := 129 }) s m ([.ref (ad 0), .int v1] : List Value).toArray below meth c H locs 0 0 (MQ below (gQ dC dI (some (.int r9)) A [(ad 0, .inr (10, oM ad m_undoCount m_thrown m_hasSnapshot a_m_fam m_rows m_lineLength m_formattedLength m_bufferLength m_limit m_next m_beginsAt m_token m_error m_errorAt m_errorPosition m_nested m_codeCount)), ((ad 16), .inl (cI, 28, .inl m_column)), (a_m_fam, .inl (cJ, 130, .inr (.inl m_fam))), ((ad 9), .inl (cI, 16, .inl m_generation)), ((ad 10), .inl (cI, 12, .inl m_level))]) ([.ref (ad 0), .int v1] : List Value).toArray s 0 0 A) (F0 m 0 ls []) by rw [hH, hlc] at hgo; exact hgo
  rw [p10_wanted] at hf
  have J16 : ∀ (v2_16 : Int32) (H : Heap) (locs : List Loc) (ls : Array Slot), p10_wanted_J16 m_column m_fam m_generation m_level v1 v2_16 = some r9 → va_P (dC, dI) vwCl [(ad 0, .inr (10, oM ad m_undoCount m_thrown m_hasSnapshot a_m_fam m_rows m_lineLength m_formattedLength m_bufferLength m_limit m_next m_beginsAt m_token m_error m_errorAt m_errorPosition m_nested m_codeCount)), ((ad 16), .inl (cI, 28, .inl m_column)), (a_m_fam, .inl (cJ, 130, .inr (.inl m_fam))), ((ad 9), .inl (cI, 16, .inl m_generation)), ((ad 10), .inl (cI, 12, .inl m_level))] H → va_D A [(ad 0, .inr (10, oM ad m_undoCount m_thrown m_hasSnapshot a_m_fam m_rows m_lineLength m_formattedLength m_bufferLength m_limit m_next m_beginsAt m_token m_error m_errorAt m_errorPosition m_nested m_codeCount)), ((ad 16), .inl (cI, 28, .inl m_column)), (a_m_fam, .inl (cJ, 130, .inr (.inl m_fam))), ((ad 9), .inl (cI, 16, .inl m_generation)), ((ad 10), .inl (cI, 12, .inl m_level))] → va_S A s.heap H locs → lv_has ls 3 [(0, .ref (ad 0)), (1, .int v1), (2, .int v2_16)] → W p l e ({ frames := 6, cells := 0, slots := 0, locals := 129 }) s m ([.ref (ad 0), .int v1] : List Value).toArray below meth c H locs 0 0 (MQ below (gQ dC dI (some (.int r9)) A [(ad 0, .inr (10, oM ad m_undoCount m_thrown m_hasSnapshot a_m_fam m_rows m_lineLength m_formattedLength m_bufferLength m_limit m_next m_beginsAt m_token m_error m_errorAt m_errorPosition m_nested m_codeCount)), ((ad 16), .inl (cI, 28, .inl m_column)), (a_m_fam, .inl (cJ, 130, .inr (.inl m_fam))), ((ad 9), .inl (cI, 16, .inl m_generation)), ((ad 10), .inl (cI, 12, .inl m_level))]) ([.ref (ad 0), .int v1] : List Value).toArray s 0 0 A) (F0 m 16 ls []) := by
    intro v2_16 H locs ls hf hP hD hS hl
    rw [p10_wanted_J16] at hf
    refine lv_iload_n hx hb dX10_wanted_16 rfl (lv_at hl 2 rfl) ?_
    refine lv_iconst (v := -1) hx hb dX10_wanted_17 (by decide) ?_
    refine lv_icmp_ne (tgt := 25) hx hb dX10_wanted_18 (by decide) (fun h9 => ?_) (fun h9 => ?_)
    · have hf := itf h9 hf
      refine lv_aload_n hx hb dX10_wanted_25 rfl (lv_at hl 0 rfl) ?_
      refine lv_iload_n hx hb dX10_wanted_26 rfl (lv_at hl 2 rfl) ?_
      obtain ⟨r27, h9, hf⟩ := ob_s hf
      refine gcV (index := 187) S hE (c_X10_unionColumn ad a_m_fam m_undoCount m_thrown m_hasSnapshot m_rows m_lineLength m_formattedLength m_bufferLength m_limit m_next m_beginsAt m_token m_error m_errorAt m_errorPosition m_nested m_codeCount m_column m_fam m_generation m_level v2_16 r27 h9) mX10_unionColumn tw1613 ⟨Nat.le_of_ble_eq_true rfl, Nat.le_of_ble_eq_true rfl⟩ hP hD hS hA ⟨Nat.zero_le _, Nat.zero_le _⟩ 0 10 rfl rfl rfl (wr := []) [0, 1, 2, 3, 4] [] rfl rfl rfl rfl (by decide) (As := [.int v2_16]) (rest := []) rfl hl.1 rfl (Nat.le_of_ble_eq_true rfl) dX10_wanted_27 (fun H locs hP hD hS => ?_)
      refine W.eq (g2 := F0 m 30 ls [.int r27]) rfl ?_
      have hP : va_P (dC, dI) vwCl [(ad 0, .inr (10, oM ad m_undoCount m_thrown m_hasSnapshot a_m_fam m_rows m_lineLength m_formattedLength m_bufferLength m_limit m_next m_beginsAt m_token m_error m_errorAt m_errorPosition m_nested m_codeCount)), ((ad 16), .inl (cI, 28, .inl m_column)), (a_m_fam, .inl (cJ, 130, .inr (.inl m_fam))), ((ad 9), .inl (cI, 16, .inl m_generation)), ((ad 10), .inl (cI, 12, .inl m_level))] H := hP
      have hD : va_D A [(ad 0, .inr (10, oM ad m_undoCount m_thrown m_hasSnapshot a_m_fam m_rows m_lineLength m_formattedLength m_bufferLength m_limit m_next m_beginsAt m_token m_error m_errorAt m_errorPosition m_nested m_codeCount)), ((ad 16), .inl (cI, 28, .inl m_column)), (a_m_fam, .inl (cJ, 130, .inr (.inl m_fam))), ((ad 9), .inl (cI, 16, .inl m_generation)), ((ad 10), .inl (cI, 12, .inl m_level))] := hD
      refine lv_aload_n hx hb dX10_wanted_30 rfl (lv_at hl 0 rfl) ?_
      refine lv_iload_n hx hb dX10_wanted_31 rfl (lv_at hl 1 rfl) ?_
      obtain ⟨r32, h9, hf⟩ := ob_s hf
      refine gcV (index := 181) S hE (c_X10_widthOf ad a_m_fam m_undoCount m_thrown m_hasSnapshot m_rows m_lineLength m_formattedLength m_bufferLength m_limit m_next m_beginsAt m_token m_error m_errorAt m_errorPosition m_nested m_codeCount m_fam m_generation m_level v1 r32 h9) mX10_widthOf tw1625 ⟨Nat.le_of_ble_eq_true rfl, Nat.le_of_ble_eq_true rfl⟩ hP hD hS hA ⟨Nat.zero_le _, Nat.zero_le _⟩ 0 10 rfl rfl rfl (wr := [((ad 16), .inl (cI, 28, .inl m_column))]) [0, 2, 3, 4] [1] rfl rfl rfl rfl (by decide) (As := [.int v1]) (rest := [.int r27]) rfl hl.1 rfl (Nat.le_of_ble_eq_true rfl) dX10_wanted_32 (fun H locs hP hD hS => ?_)
      refine W.eq (g2 := F0 m 35 ls [.int r32, .int r27]) rfl ?_
      have hP : va_P (dC, dI) vwCl [((ad 16), .inl (cI, 28, .inl m_column)), (ad 0, .inr (10, oM ad m_undoCount m_thrown m_hasSnapshot a_m_fam m_rows m_lineLength m_formattedLength m_bufferLength m_limit m_next m_beginsAt m_token m_error m_errorAt m_errorPosition m_nested m_codeCount)), (a_m_fam, .inl (cJ, 130, .inr (.inl m_fam))), ((ad 9), .inl (cI, 16, .inl m_generation)), ((ad 10), .inl (cI, 12, .inl m_level))] H := hP
      have hD : va_D A [((ad 16), .inl (cI, 28, .inl m_column)), (ad 0, .inr (10, oM ad m_undoCount m_thrown m_hasSnapshot a_m_fam m_rows m_lineLength m_formattedLength m_bufferLength m_limit m_next m_beginsAt m_token m_error m_errorAt m_errorPosition m_nested m_codeCount)), (a_m_fam, .inl (cJ, 130, .inr (.inl m_fam))), ((ad 9), .inl (cI, 16, .inl m_generation)), ((ad 10), .inl (cI, 12, .inl m_level))] := hD
      refine lv_iconst (v := 2) hx hb dX10_wanted_35 (by decide) ?_
      refine lv_idiv hx hb dX10_wanted_36 (by decide) ?_
      refine lv_isub hx hb dX10_wanted_37 ?_
      cases hf
      exact g_iret S hr hlocks (hP.sub [1, 0, 2, 3, 4] rfl) (hD.sub [1, 0, 2, 3, 4] (by decide) rfl) hS dX10_wanted_38
    · have hf := itt h9 hf
      refine lv_iconst (v := 0) hx hb dX10_wanted_21 (by decide) ?_
      refine lv_goto (tgt := 38) hx hb dX10_wanted_22 (by decide) ?_
      cases hf
      exact g_iret S hr hlocks hP hD hS dX10_wanted_38
  refine lv_iload_n hx hb dX10_wanted_0 rfl (lv_at hl 1 rfl) ?_
  refine lv_bipush (v := 16) hx hb dX10_wanted_1 (by decide) ?_
  refine lv_icmp_ge (tgt := 14) hx hb dX10_wanted_3 (by decide) (fun h9 => ?_) (fun h9 => ?_)
  · have hf := itt h9 hf
    refine lv_iconst (v := -1) hx hb dX10_wanted_14 (by decide) ?_
    refine lv_istore_n (lv' := [(2, .int (-1 : Int32)), (0, .ref (ad 0)), (1, .int v1)]) hx hb dX10_wanted_15 rfl hl (by decide) rfl (fun ls hl => ?_)
    exact J16 (-1 : Int32) H locs ls hf hP hD hS (lv_sub hl [1, 2, 0] rfl)
  · have hf := itf h9 hf
    refine lv_aload_n hx hb dX10_wanted_6 rfl (lv_at hl 0 rfl) ?_
    refine lv_iload_n hx hb dX10_wanted_7 rfl (lv_at hl 1 rfl) ?_
    obtain ⟨r8, h9, hf⟩ := ob_s hf
    refine gcV (index := 117) S hE (c_X10_parentsOf ad a_m_fam m_undoCount m_thrown m_hasSnapshot m_rows m_lineLength m_formattedLength m_bufferLength m_limit m_next m_beginsAt m_token m_error m_errorAt m_errorPosition m_nested m_codeCount m_fam v1 r8 h9) mX10_parentsOf tw1515 ⟨Nat.le_of_ble_eq_true rfl, Nat.le_of_ble_eq_true rfl⟩ hP hD hS hA ⟨Nat.zero_le _, Nat.zero_le _⟩ 0 10 rfl rfl rfl (wr := [((ad 16), .inl (cI, 28, .inl m_column)), ((ad 9), .inl (cI, 16, .inl m_generation)), ((ad 10), .inl (cI, 12, .inl m_level))]) [0, 2] [1, 3, 4] rfl rfl rfl rfl (by decide) (As := [.int v1]) (rest := []) rfl hl.1 rfl (Nat.le_of_ble_eq_true rfl) dX10_wanted_8 (fun H locs hP hD hS => ?_)
    refine W.eq (g2 := F0 m 11 ls [.int r8]) rfl ?_
    have hP : va_P (dC, dI) vwCl [((ad 16), .inl (cI, 28, .inl m_column)), ((ad 9), .inl (cI, 16, .inl m_generation)), ((ad 10), .inl (cI, 12, .inl m_level)), (ad 0, .inr (10, oM ad m_undoCount m_thrown m_hasSnapshot a_m_fam m_rows m_lineLength m_formattedLength m_bufferLength m_limit m_next m_beginsAt m_token m_error m_errorAt m_errorPosition m_nested m_codeCount)), (a_m_fam, .inl (cJ, 130, .inr (.inl m_fam)))] H := hP
    have hD : va_D A [((ad 16), .inl (cI, 28, .inl m_column)), ((ad 9), .inl (cI, 16, .inl m_generation)), ((ad 10), .inl (cI, 12, .inl m_level)), (ad 0, .inr (10, oM ad m_undoCount m_thrown m_hasSnapshot a_m_fam m_rows m_lineLength m_formattedLength m_bufferLength m_limit m_next m_beginsAt m_token m_error m_errorAt m_errorPosition m_nested m_codeCount)), (a_m_fam, .inl (cJ, 130, .inr (.inl m_fam)))] := hD
    refine lv_goto (tgt := 15) hx hb dX10_wanted_11 (by decide) ?_
    refine lv_istore_n (lv' := [(2, .int r8), (0, .ref (ad 0)), (1, .int v1)]) hx hb dX10_wanted_15 rfl hl (by decide) rfl (fun ls hl => ?_)
    exact J16 r8 H locs ls hf (hP.sub [3, 0, 4, 1, 2] rfl) (hD.sub [3, 0, 4, 1, 2] (by decide) rfl) hS (lv_sub hl [1, 2, 0] rfl)
set_option maxHeartbeats 4000000 in
set_option maxRecDepth 100000 in
theorem c_X10_mark (ad : Nat → Nat) (a_m_fam : Nat) (m_undoCount : Int32) (m_thrown : Int32) (m_hasSnapshot : Bool) (m_rows : Int32) (m_lineLength : Int32) (m_formattedLength : Int32) (m_bufferLength : Int32) (m_limit : Int32) (m_next : Int32) (m_beginsAt : Int32) (m_token : Int32) (m_error : Int32) (m_errorAt : Int32) (m_errorPosition : Int32) (m_nested : Int32) (m_codeCount : Int32) (m_line : Nat → Int32) (v1 : Int32) (v2 : Int32) (m_line_9 : Nat → Int32) (m_lineLength_9 : Int32) (hf : p10_mark m_lineLength m_line v1 v2 = some (m_line_9, m_lineLength_9)) : gM l dC dI cI cJ cZ yX10_mark cX10_mark 3 none (1) (21) [.ref (ad 0), .int v1, .int v2] [(ad 0, .inr (10, oM ad m_undoCount m_thrown m_hasSnapshot a_m_fam m_rows m_lineLength m_formattedLength m_bufferLength m_limit m_next m_beginsAt m_token m_error m_errorAt m_errorPosition m_nested m_codeCount)), ((ad 17), .inl (cI, 800, .inl m_line))] [(ad 0, .inr (10, oM ad m_undoCount m_thrown m_hasSnapshot a_m_fam m_rows m_lineLength_9 m_formattedLength m_bufferLength m_limit m_next m_beginsAt m_token m_error m_errorAt m_errorPosition m_nested m_codeCount)), ((ad 17), .inl (cI, 800, .inl m_line_9))] none := by
  refine g_start (own := RX10) (by decide +kernel) rfl (Nat.le_of_ble_eq_true rfl) ?_
  intro p e s m below meth c A ls S hr hlocks hE hP hD hS hA hl hin
  have hx := S.1
  have hb := S.2.1
  have hml := S.2.2.1
  have hown := S.2.2.2.1
  have htg : ∀ z ∈ gw, z.before ([.ref (ad 0), .int v1, .int v2] : List Value).toArray s = true := fun w h => S.2.2.2.2 w (List.mem_cons_of_mem _ h)
  have hl : lv_has ls 3 [(0, .ref (ad 0)), (1, .int v1), (2, .int v2)] := hl
  have hS0 := hS
  obtain ⟨H, hH⟩ : ∃ H, H = s.heap := ⟨_, rfl⟩
  obtain ⟨locs, hlc⟩ : ∃ locs : List Loc, locs = [] := ⟨_, rfl⟩
  have hS : va_S A s.heap H locs := by rw [hH, hlc]; exact hS0
  have hP : va_P (dC, dI) vwCl [(ad 0, .inr (10, oM ad m_undoCount m_thrown m_hasSnapshot a_m_fam m_rows m_lineLength m_formattedLength m_bufferLength m_limit m_next m_beginsAt m_token m_error m_errorAt m_errorPosition m_nested m_codeCount)), ((ad 17), .inl (cI, 800, .inl m_line))] H := by rw [hH]; exact hP
  suffices hgo : W p l e ({ frames := 1, cells := 0, slots := 0, locals := 21 }) s m ([.ref (ad 0), .int v1, .int v2] : List Value).toArray below meth c H locs 0 0 (MQ below (gQ dC dI none A [(ad 0, .inr (10, oM ad m_undoCount m_thrown m_hasSnapshot a_m_fam m_rows m_lineLength_9 m_formattedLength m_bufferLength m_limit m_next m_beginsAt m_token m_error m_errorAt m_errorPosition m_nested m_codeCount)), ((ad 17), .inl (cI, 800, .inl m_line_9))]) ([.ref (ad 0), .int v1, .int v2] : List Value).toArray s 0 0 A) (F0 m 0 ls []) by rw [hH, hlc] at hgo; exact hgo
  rw [p10_mark] at hf
  refine lv_aload_n hx hb dX10_mark_0 rfl (lv_at hl 0 rfl) ?_
  refine va_get (D := (dC, dI)) (ci := 10) (v := .ref (ad 17)) (C := RX10) (T := TX10) (N := 37) hx hb htg inX10 hown hE.1 hP 0 rfl rfl 16 (by decide) (htg _ tw1398) (fun _ h9 => h9) rfl dX10_mark_1 ?_
  refine lv_iload_n hx hb dX10_mark_4 rfl (lv_at hl 1 rfl) ?_
  refine lv_iload_n hx hb dX10_mark_5 rfl (lv_at hl 2 rfl) ?_
  obtain ⟨h9, hf⟩ := gd_s hf
  refine va_iast hx hb hE.1 hP hD hS 1 0 rfl rfl h9 dX10_mark_6 (fun H locs hP hD hS => ?_)
  obtain ⟨g6, h9⟩ : ∃ z, z = (upd m_line v1.toNatClampNeg v2) := ⟨_, rfl⟩
  have hf := lb_e h9 hf
  have hP : va_P (dC, dI) vwCl [(ad 0, .inr (10, oM ad m_undoCount m_thrown m_hasSnapshot a_m_fam m_rows m_lineLength m_formattedLength m_bufferLength m_limit m_next m_beginsAt m_token m_error m_errorAt m_errorPosition m_nested m_codeCount)), ((ad 17), .inl (cI, 800, .inl g6))] H := by rw [h9]; exact hP
  have hD : va_D A [(ad 0, .inr (10, oM ad m_undoCount m_thrown m_hasSnapshot a_m_fam m_rows m_lineLength m_formattedLength m_bufferLength m_limit m_next m_beginsAt m_token m_error m_errorAt m_errorPosition m_nested m_codeCount)), ((ad 17), .inl (cI, 800, .inl g6))] := by rw [h9]; exact hD
  refine lv_aload_n hx hb dX10_mark_7 rfl (lv_at hl 0 rfl) ?_
  refine lv_aload_n hx hb dX10_mark_8 rfl (lv_at hl 0 rfl) ?_
  refine va_get (D := (dC, dI)) (ci := 10) (v := .int m_lineLength) (C := RX10) (T := TX10) (N := 37) hx hb htg inX10 hown hE.1 hP 0 rfl rfl 17 (by decide) (htg _ tw1399) (fun _ h9 => h9) rfl dX10_mark_9 ?_
  refine lv_iload_n hx hb dX10_mark_12 rfl (lv_at hl 1 rfl) ?_
  refine lv_iconst (v := 1) hx hb dX10_mark_13 (by decide) ?_
  refine lv_iadd hx hb dX10_mark_14 ?_
  refine va_mmax hx hb (hml.trans hl.1.symm) hown (htg _ tw1531) (htg _ tw457) (htg _ tw16) (htg _ tw458) (Nat.le_of_ble_eq_true rfl) (Nat.le_of_ble_eq_true rfl) (Nat.zero_le _) (Nat.zero_le _) dX10_mark_15 ?_
  refine W.eq (g2 := F0 m 18 ls [.int (imax m_lineLength ((v1 + (1 : Int32)))), .ref (ad 0)]) rfl ?_
  refine lv_topi (fun t18 h9 => ?_)
  have hf := lb_e h9 hf
  refine va_put (D := (dC, dI)) (ci := 10) (v := .int t18) (ty := .int) (C := RX10) (T := TX10) (N := 37) hx hb htg inX10 tyX10 tyX10_ok nmX10 hown hE.1 hP hD hS 0 rfl rfl 17 (by decide) (htg _ tw1399) (fun _ h9 => h9) rfl (by decide +kernel) rfl rfl (Nat.le_of_ble_eq_true rfl) dX10_mark_18 (fun H locs hP hD hS => ?_)
  have hP : va_P (dC, dI) vwCl [(ad 0, .inr (10, oM ad m_undoCount m_thrown m_hasSnapshot a_m_fam m_rows t18 m_formattedLength m_bufferLength m_limit m_next m_beginsAt m_token m_error m_errorAt m_errorPosition m_nested m_codeCount)), ((ad 17), .inl (cI, 800, .inl g6))] H := hP
  have hD : va_D A [(ad 0, .inr (10, oM ad m_undoCount m_thrown m_hasSnapshot a_m_fam m_rows t18 m_formattedLength m_bufferLength m_limit m_next m_beginsAt m_token m_error m_errorAt m_errorPosition m_nested m_codeCount)), ((ad 17), .inl (cI, 800, .inl g6))] := hD
  cases hf
  exact g_vret S hr hlocks hP hD hS dX10_mark_21
set_option maxHeartbeats 4000000 in
set_option maxRecDepth 100000 in
theorem c_X10_printBox (ad : Nat → Nat) (a_m_fam : Nat) (m_undoCount : Int32) (m_thrown : Int32) (m_hasSnapshot : Bool) (m_rows : Int32) (m_lineLength : Int32) (m_formattedLength : Int32) (m_bufferLength : Int32) (m_limit : Int32) (m_next : Int32) (m_beginsAt : Int32) (m_token : Int32) (m_error : Int32) (m_errorAt : Int32) (m_errorPosition : Int32) (m_nested : Int32) (m_codeCount : Int32) (m_column : Nat → Int32) (m_fam : Nat → Int64) (m_generation : Nat → Int32) (m_level : Nat → Int32) (m_line : Nat → Int32) (v1 : Int32) (m_line_9 : Nat → Int32) (m_lineLength_9 : Int32) (hf : p10_printBox m_lineLength m_column m_fam m_generation m_level m_line v1 = some (m_line_9, m_lineLength_9)) : gM l dC dI cI cJ cZ yX10_printBox cX10_printBox 8 none (3) (66) [.ref (ad 0), .int v1] [(ad 0, .inr (10, oM ad m_undoCount m_thrown m_hasSnapshot a_m_fam m_rows m_lineLength m_formattedLength m_bufferLength m_limit m_next m_beginsAt m_token m_error m_errorAt m_errorPosition m_nested m_codeCount)), ((ad 16), .inl (cI, 28, .inl m_column)), (a_m_fam, .inl (cJ, 130, .inr (.inl m_fam))), ((ad 9), .inl (cI, 16, .inl m_generation)), ((ad 10), .inl (cI, 12, .inl m_level)), ((ad 17), .inl (cI, 800, .inl m_line))] [(ad 0, .inr (10, oM ad m_undoCount m_thrown m_hasSnapshot a_m_fam m_rows m_lineLength_9 m_formattedLength m_bufferLength m_limit m_next m_beginsAt m_token m_error m_errorAt m_errorPosition m_nested m_codeCount)), ((ad 16), .inl (cI, 28, .inl m_column)), (a_m_fam, .inl (cJ, 130, .inr (.inl m_fam))), ((ad 9), .inl (cI, 16, .inl m_generation)), ((ad 10), .inl (cI, 12, .inl m_level)), ((ad 17), .inl (cI, 800, .inl m_line_9))] none := by
  refine g_start (own := RX10) (by decide +kernel) rfl (Nat.le_of_ble_eq_true rfl) ?_
  intro p e s m below meth c A ls S hr hlocks hE hP hD hS hA hl hin
  have hx := S.1
  have hb := S.2.1
  have hml := S.2.2.1
  have hown := S.2.2.2.1
  have htg : ∀ z ∈ gw, z.before ([.ref (ad 0), .int v1] : List Value).toArray s = true := fun w h => S.2.2.2.2 w (List.mem_cons_of_mem _ h)
  have hl : lv_has ls 8 [(0, .ref (ad 0)), (1, .int v1)] := hl
  have hS0 := hS
  obtain ⟨H, hH⟩ : ∃ H, H = s.heap := ⟨_, rfl⟩
  obtain ⟨locs, hlc⟩ : ∃ locs : List Loc, locs = [] := ⟨_, rfl⟩
  have hS : va_S A s.heap H locs := by rw [hH, hlc]; exact hS0
  have hP : va_P (dC, dI) vwCl [(ad 0, .inr (10, oM ad m_undoCount m_thrown m_hasSnapshot a_m_fam m_rows m_lineLength m_formattedLength m_bufferLength m_limit m_next m_beginsAt m_token m_error m_errorAt m_errorPosition m_nested m_codeCount)), ((ad 16), .inl (cI, 28, .inl m_column)), (a_m_fam, .inl (cJ, 130, .inr (.inl m_fam))), ((ad 9), .inl (cI, 16, .inl m_generation)), ((ad 10), .inl (cI, 12, .inl m_level)), ((ad 17), .inl (cI, 800, .inl m_line))] H := by rw [hH]; exact hP
  suffices hgo : W p l e ({ frames := 3, cells := 0, slots := 0, locals := 66 }) s m ([.ref (ad 0), .int v1] : List Value).toArray below meth c H locs 0 0 (MQ below (gQ dC dI none A [(ad 0, .inr (10, oM ad m_undoCount m_thrown m_hasSnapshot a_m_fam m_rows m_lineLength_9 m_formattedLength m_bufferLength m_limit m_next m_beginsAt m_token m_error m_errorAt m_errorPosition m_nested m_codeCount)), ((ad 16), .inl (cI, 28, .inl m_column)), (a_m_fam, .inl (cJ, 130, .inr (.inl m_fam))), ((ad 9), .inl (cI, 16, .inl m_generation)), ((ad 10), .inl (cI, 12, .inl m_level)), ((ad 17), .inl (cI, 800, .inl m_line_9))]) ([.ref (ad 0), .int v1] : List Value).toArray s 0 0 A) (F0 m 0 ls []) by rw [hH, hlc] at hgo; exact hgo
  rw [p10_printBox] at hf
  have J92 : ∀ (v3_92 : Int32) (v4_92 : Int32) (m_lineLength_92 : Int32) (m_line_92 : Nat → Int32) (H : Heap) (locs : List Loc) (ls : Array Slot), p10_printBox_J92 v1 v3_92 v4_92 m_lineLength_92 m_line_92 = some (m_line_9, m_lineLength_9) → va_P (dC, dI) vwCl [(ad 0, .inr (10, oM ad m_undoCount m_thrown m_hasSnapshot a_m_fam m_rows m_lineLength_92 m_formattedLength m_bufferLength m_limit m_next m_beginsAt m_token m_error m_errorAt m_errorPosition m_nested m_codeCount)), ((ad 16), .inl (cI, 28, .inl m_column)), (a_m_fam, .inl (cJ, 130, .inr (.inl m_fam))), ((ad 9), .inl (cI, 16, .inl m_generation)), ((ad 10), .inl (cI, 12, .inl m_level)), ((ad 17), .inl (cI, 800, .inl m_line_92))] H → va_D A [(ad 0, .inr (10, oM ad m_undoCount m_thrown m_hasSnapshot a_m_fam m_rows m_lineLength_92 m_formattedLength m_bufferLength m_limit m_next m_beginsAt m_token m_error m_errorAt m_errorPosition m_nested m_codeCount)), ((ad 16), .inl (cI, 28, .inl m_column)), (a_m_fam, .inl (cJ, 130, .inr (.inl m_fam))), ((ad 9), .inl (cI, 16, .inl m_generation)), ((ad 10), .inl (cI, 12, .inl m_level)), ((ad 17), .inl (cI, 800, .inl m_line_92))] → va_S A s.heap H locs → lv_has ls 8 [(0, .ref (ad 0)), (1, .int v1), (3, .int v3_92), (4, .int v4_92)] → W p l e ({ frames := 3, cells := 0, slots := 0, locals := 66 }) s m ([.ref (ad 0), .int v1] : List Value).toArray below meth c H locs 0 0 (MQ below (gQ dC dI none A [(ad 0, .inr (10, oM ad m_undoCount m_thrown m_hasSnapshot a_m_fam m_rows m_lineLength_9 m_formattedLength m_bufferLength m_limit m_next m_beginsAt m_token m_error m_errorAt m_errorPosition m_nested m_codeCount)), ((ad 16), .inl (cI, 28, .inl m_column)), (a_m_fam, .inl (cJ, 130, .inr (.inl m_fam))), ((ad 9), .inl (cI, 16, .inl m_generation)), ((ad 10), .inl (cI, 12, .inl m_level)), ((ad 17), .inl (cI, 800, .inl m_line_9))]) ([.ref (ad 0), .int v1] : List Value).toArray s 0 0 A) (F0 m 92 ls []) := by
    intro v3_92 v4_92 m_lineLength_92 m_line_92 H locs ls hf hP hD hS hl
    rw [p10_printBox_J92] at hf
    refine lv_aload_n hx hb dX10_printBox_92 rfl (lv_at hl 0 rfl) ?_
    refine lv_iload hx hb dX10_printBox_93 (lv_at hl 3 rfl) ?_
    refine lv_iload_n hx hb dX10_printBox_95 rfl (lv_at hl 2 rfl) ?_
    refine lv_iadd hx hb dX10_printBox_96 ?_
    refine lv_iconst (v := 1) hx hb dX10_printBox_97 (by decide) ?_
    refine lv_iadd hx hb dX10_printBox_98 ?_
    refine lv_iload_n hx hb dX10_printBox_99 rfl (lv_at hl 1 rfl) ?_
    refine lv_bipush (v := 16) hx hb dX10_printBox_100 (by decide) ?_
    refine lv_icmp_ge (tgt := 110) hx hb dX10_printBox_102 (by decide) (fun h9 => ?_) (fun h9 => ?_)
    · have hf := itt h9 hf
      refine lv_bipush (v := 41) hx hb dX10_printBox_110 (by decide) ?_
      obtain ⟨⟨m_line_112, m_lineLength_112⟩, h9, hf⟩ := ob_s hf
      have hf := uc2_e hf
      refine gcV (index := 199) S hE (c_X10_mark ad a_m_fam m_undoCount m_thrown m_hasSnapshot m_rows m_lineLength_92 m_formattedLength m_bufferLength m_limit m_next m_beginsAt m_token m_error m_errorAt m_errorPosition m_nested m_codeCount m_line_92 ((v4_92 + v3_92) + (1 : Int32)) (41 : Int32) m_line_112 m_lineLength_112 h9) mX10_mark tw1789 ⟨Nat.le_of_ble_eq_true rfl, Nat.le_of_ble_eq_true rfl⟩ hP hD hS hA ⟨Nat.zero_le _, Nat.zero_le _⟩ 0 10 rfl rfl rfl (wr := [((ad 16), .inl (cI, 28, .inl m_column)), (a_m_fam, .inl (cJ, 130, .inr (.inl m_fam))), ((ad 9), .inl (cI, 16, .inl m_generation)), ((ad 10), .inl (cI, 12, .inl m_level))]) [0, 5] [1, 2, 3, 4] rfl rfl rfl rfl (by decide) (As := [.int ((v4_92 + v3_92) + (1 : Int32)), .int (41 : Int32)]) (rest := []) rfl hl.1 rfl (Nat.le_of_ble_eq_true rfl) dX10_printBox_112 (fun H locs hP hD hS => ?_)
      refine W.eq (g2 := F0 m 115 ls []) rfl ?_
      have hP : va_P (dC, dI) vwCl [((ad 16), .inl (cI, 28, .inl m_column)), (a_m_fam, .inl (cJ, 130, .inr (.inl m_fam))), ((ad 9), .inl (cI, 16, .inl m_generation)), ((ad 10), .inl (cI, 12, .inl m_level)), (ad 0, .inr (10, oM ad m_undoCount m_thrown m_hasSnapshot a_m_fam m_rows m_lineLength_112 m_formattedLength m_bufferLength m_limit m_next m_beginsAt m_token m_error m_errorAt m_errorPosition m_nested m_codeCount)), ((ad 17), .inl (cI, 800, .inl m_line_112))] H := hP
      have hD : va_D A [((ad 16), .inl (cI, 28, .inl m_column)), (a_m_fam, .inl (cJ, 130, .inr (.inl m_fam))), ((ad 9), .inl (cI, 16, .inl m_generation)), ((ad 10), .inl (cI, 12, .inl m_level)), (ad 0, .inr (10, oM ad m_undoCount m_thrown m_hasSnapshot a_m_fam m_rows m_lineLength_112 m_formattedLength m_bufferLength m_limit m_next m_beginsAt m_token m_error m_errorAt m_errorPosition m_nested m_codeCount)), ((ad 17), .inl (cI, 800, .inl m_line_112))] := hD
      cases hf
      exact g_vret S hr hlocks (hP.sub [4, 0, 1, 2, 3, 5] rfl) (hD.sub [4, 0, 1, 2, 3, 5] (by decide) rfl) hS dX10_printBox_115
    · have hf := itf h9 hf
      refine lv_bipush (v := 93) hx hb dX10_printBox_105 (by decide) ?_
      refine lv_goto (tgt := 112) hx hb dX10_printBox_107 (by decide) ?_
      obtain ⟨⟨m_line_112, m_lineLength_112⟩, h9, hf⟩ := ob_s hf
      have hf := uc2_e hf
      refine gcV (index := 199) S hE (c_X10_mark ad a_m_fam m_undoCount m_thrown m_hasSnapshot m_rows m_lineLength_92 m_formattedLength m_bufferLength m_limit m_next m_beginsAt m_token m_error m_errorAt m_errorPosition m_nested m_codeCount m_line_92 ((v4_92 + v3_92) + (1 : Int32)) (93 : Int32) m_line_112 m_lineLength_112 h9) mX10_mark tw1789 ⟨Nat.le_of_ble_eq_true rfl, Nat.le_of_ble_eq_true rfl⟩ hP hD hS hA ⟨Nat.zero_le _, Nat.zero_le _⟩ 0 10 rfl rfl rfl (wr := [((ad 16), .inl (cI, 28, .inl m_column)), (a_m_fam, .inl (cJ, 130, .inr (.inl m_fam))), ((ad 9), .inl (cI, 16, .inl m_generation)), ((ad 10), .inl (cI, 12, .inl m_level))]) [0, 5] [1, 2, 3, 4] rfl rfl rfl rfl (by decide) (As := [.int ((v4_92 + v3_92) + (1 : Int32)), .int (93 : Int32)]) (rest := []) rfl hl.1 rfl (Nat.le_of_ble_eq_true rfl) dX10_printBox_112 (fun H locs hP hD hS => ?_)
      refine W.eq (g2 := F0 m 115 ls []) rfl ?_
      have hP : va_P (dC, dI) vwCl [((ad 16), .inl (cI, 28, .inl m_column)), (a_m_fam, .inl (cJ, 130, .inr (.inl m_fam))), ((ad 9), .inl (cI, 16, .inl m_generation)), ((ad 10), .inl (cI, 12, .inl m_level)), (ad 0, .inr (10, oM ad m_undoCount m_thrown m_hasSnapshot a_m_fam m_rows m_lineLength_112 m_formattedLength m_bufferLength m_limit m_next m_beginsAt m_token m_error m_errorAt m_errorPosition m_nested m_codeCount)), ((ad 17), .inl (cI, 800, .inl m_line_112))] H := hP
      have hD : va_D A [((ad 16), .inl (cI, 28, .inl m_column)), (a_m_fam, .inl (cJ, 130, .inr (.inl m_fam))), ((ad 9), .inl (cI, 16, .inl m_generation)), ((ad 10), .inl (cI, 12, .inl m_level)), (ad 0, .inr (10, oM ad m_undoCount m_thrown m_hasSnapshot a_m_fam m_rows m_lineLength_112 m_formattedLength m_bufferLength m_limit m_next m_beginsAt m_token m_error m_errorAt m_errorPosition m_nested m_codeCount)), ((ad 17), .inl (cI, 800, .inl m_line_112))] := hD
      cases hf
      exact g_vret S hr hlocks (hP.sub [4, 0, 1, 2, 3, 5] rfl) (hD.sub [4, 0, 1, 2, 3, 5] (by decide) rfl) hS dX10_printBox_115
  have J41 : ∀ (v2_41 : Int32) (v3_41 : Int32) (v4_41 : Int32) (m_lineLength_41 : Int32) (m_line_41 : Nat → Int32) (H : Heap) (locs : List Loc) (ls : Array Slot), p10_printBox_J41 m_fam v1 v2_41 v3_41 v4_41 m_lineLength_41 m_line_41 = some (m_line_9, m_lineLength_9) → va_P (dC, dI) vwCl [(ad 0, .inr (10, oM ad m_undoCount m_thrown m_hasSnapshot a_m_fam m_rows m_lineLength_41 m_formattedLength m_bufferLength m_limit m_next m_beginsAt m_token m_error m_errorAt m_errorPosition m_nested m_codeCount)), ((ad 16), .inl (cI, 28, .inl m_column)), (a_m_fam, .inl (cJ, 130, .inr (.inl m_fam))), ((ad 9), .inl (cI, 16, .inl m_generation)), ((ad 10), .inl (cI, 12, .inl m_level)), ((ad 17), .inl (cI, 800, .inl m_line_41))] H → va_D A [(ad 0, .inr (10, oM ad m_undoCount m_thrown m_hasSnapshot a_m_fam m_rows m_lineLength_41 m_formattedLength m_bufferLength m_limit m_next m_beginsAt m_token m_error m_errorAt m_errorPosition m_nested m_codeCount)), ((ad 16), .inl (cI, 28, .inl m_column)), (a_m_fam, .inl (cJ, 130, .inr (.inl m_fam))), ((ad 9), .inl (cI, 16, .inl m_generation)), ((ad 10), .inl (cI, 12, .inl m_level)), ((ad 17), .inl (cI, 800, .inl m_line_41))] → va_S A s.heap H locs → lv_has ls 8 [(0, .ref (ad 0)), (1, .int v1), (2, .int v2_41), (3, .int v3_41), (4, .int v4_41)] → W p l e ({ frames := 3, cells := 0, slots := 0, locals := 66 }) s m ([.ref (ad 0), .int v1] : List Value).toArray below meth c H locs 0 0 (MQ below (gQ dC dI none A [(ad 0, .inr (10, oM ad m_undoCount m_thrown m_hasSnapshot a_m_fam m_rows m_lineLength_9 m_formattedLength m_bufferLength m_limit m_next m_beginsAt m_token m_error m_errorAt m_errorPosition m_nested m_codeCount)), ((ad 16), .inl (cI, 28, .inl m_column)), (a_m_fam, .inl (cJ, 130, .inr (.inl m_fam))), ((ad 9), .inl (cI, 16, .inl m_generation)), ((ad 10), .inl (cI, 12, .inl m_level)), ((ad 17), .inl (cI, 800, .inl m_line_9))]) ([.ref (ad 0), .int v1] : List Value).toArray s 0 0 A) (F0 m 41 ls []) := by
    intro v2_41 v3_41 v4_41 m_lineLength_41 m_line_41 H locs ls hf hP hD hS hl
    rw [p10_printBox_J41] at hf
    refine lv_aload_n hx hb dX10_printBox_41 rfl (lv_at hl 0 rfl) ?_
    refine lv_iload_n hx hb dX10_printBox_42 rfl (lv_at hl 2 rfl) ?_
    refine lv_iconst (v := 2) hx hb dX10_printBox_43 (by decide) ?_
    obtain ⟨r44, h9, hf⟩ := ob_s hf
    refine gcV (index := 98) S hE (c_X10_ofPerson ad a_m_fam m_undoCount m_thrown m_hasSnapshot m_rows m_lineLength_41 m_formattedLength m_bufferLength m_limit m_next m_beginsAt m_token m_error m_errorAt m_errorPosition m_nested m_codeCount m_fam v2_41 (2 : Int32) r44 h9) mX10_ofPerson tw1519 ⟨Nat.le_of_ble_eq_true rfl, Nat.le_of_ble_eq_true rfl⟩ hP hD hS hA ⟨Nat.zero_le _, Nat.zero_le _⟩ 0 10 rfl rfl rfl (wr := [((ad 16), .inl (cI, 28, .inl m_column)), ((ad 9), .inl (cI, 16, .inl m_generation)), ((ad 10), .inl (cI, 12, .inl m_level)), ((ad 17), .inl (cI, 800, .inl m_line_41))]) [0, 2] [1, 3, 4, 5] rfl rfl rfl rfl (by decide) (As := [.int v2_41, .int (2 : Int32)]) (rest := []) rfl hl.1 rfl (Nat.le_of_ble_eq_true rfl) dX10_printBox_44 (fun H locs hP hD hS => ?_)
    refine W.eq (g2 := F0 m 47 ls [.long r44]) rfl ?_
    have hP : va_P (dC, dI) vwCl [((ad 16), .inl (cI, 28, .inl m_column)), ((ad 9), .inl (cI, 16, .inl m_generation)), ((ad 10), .inl (cI, 12, .inl m_level)), ((ad 17), .inl (cI, 800, .inl m_line_41)), (ad 0, .inr (10, oM ad m_undoCount m_thrown m_hasSnapshot a_m_fam m_rows m_lineLength_41 m_formattedLength m_bufferLength m_limit m_next m_beginsAt m_token m_error m_errorAt m_errorPosition m_nested m_codeCount)), (a_m_fam, .inl (cJ, 130, .inr (.inl m_fam)))] H := hP
    have hD : va_D A [((ad 16), .inl (cI, 28, .inl m_column)), ((ad 9), .inl (cI, 16, .inl m_generation)), ((ad 10), .inl (cI, 12, .inl m_level)), ((ad 17), .inl (cI, 800, .inl m_line_41)), (ad 0, .inr (10, oM ad m_undoCount m_thrown m_hasSnapshot a_m_fam m_rows m_lineLength_41 m_formattedLength m_bufferLength m_limit m_next m_beginsAt m_token m_error m_errorAt m_errorPosition m_nested m_codeCount)), (a_m_fam, .inl (cJ, 130, .inr (.inl m_fam)))] := hD
    refine lv_lstore (lv' := [(5, .long r44), (0, .ref (ad 0)), (1, .int v1), (2, .int v2_41), (3, .int v3_41), (4, .int v4_41)]) hx hb dX10_printBox_47 hl (by decide) rfl (fun ls hl => ?_)
    refine lv_iload_n hx hb dX10_printBox_49 rfl (lv_at hl 4 rfl) ?_
    refine lv_istore (lv' := [(7, .int v3_41), (5, .long r44), (0, .ref (ad 0)), (1, .int v1), (2, .int v2_41), (3, .int v3_41), (4, .int v4_41)]) hx hb dX10_printBox_50 hl (by decide) rfl (fun ls hl => ?_)
    have K52 : ∀ (n52 : Nat) (v5_52 : Int64) (v7_52 : Int32) (m_line_52 : Nat → Int32) (m_lineLength_52 : Int32) (ex52 : (Nat → Int32) × Int32) (H : Heap) (locs : List Loc) (ls : Array Slot), p10_printBox_L52 v4_41 n52 v5_52 v7_52 m_line_52 m_lineLength_52 = some ex52 → (uc2 fun m_line_x52 m_lineLength_x52 => p10_printBox_J92 v1 v3_41 v4_41 m_lineLength_x52 m_line_x52) ex52 = some (m_line_9, m_lineLength_9) → va_P (dC, dI) vwCl [(ad 0, .inr (10, oM ad m_undoCount m_thrown m_hasSnapshot a_m_fam m_rows m_lineLength_52 m_formattedLength m_bufferLength m_limit m_next m_beginsAt m_token m_error m_errorAt m_errorPosition m_nested m_codeCount)), ((ad 16), .inl (cI, 28, .inl m_column)), (a_m_fam, .inl (cJ, 130, .inr (.inl m_fam))), ((ad 9), .inl (cI, 16, .inl m_generation)), ((ad 10), .inl (cI, 12, .inl m_level)), ((ad 17), .inl (cI, 800, .inl m_line_52))] H → va_D A [(ad 0, .inr (10, oM ad m_undoCount m_thrown m_hasSnapshot a_m_fam m_rows m_lineLength_52 m_formattedLength m_bufferLength m_limit m_next m_beginsAt m_token m_error m_errorAt m_errorPosition m_nested m_codeCount)), ((ad 16), .inl (cI, 28, .inl m_column)), (a_m_fam, .inl (cJ, 130, .inr (.inl m_fam))), ((ad 9), .inl (cI, 16, .inl m_generation)), ((ad 10), .inl (cI, 12, .inl m_level)), ((ad 17), .inl (cI, 800, .inl m_line_52))] → va_S A s.heap H locs → lv_has ls 8 [(0, .ref (ad 0)), (1, .int v1), (3, .int v3_41), (4, .int v4_41), (5, .long v5_52), (7, .int v7_52)] → W p l e ({ frames := 3, cells := 0, slots := 0, locals := 66 }) s m ([.ref (ad 0), .int v1] : List Value).toArray below meth c H locs 0 0 (MQ below (gQ dC dI none A [(ad 0, .inr (10, oM ad m_undoCount m_thrown m_hasSnapshot a_m_fam m_rows m_lineLength_9 m_formattedLength m_bufferLength m_limit m_next m_beginsAt m_token m_error m_errorAt m_errorPosition m_nested m_codeCount)), ((ad 16), .inl (cI, 28, .inl m_column)), (a_m_fam, .inl (cJ, 130, .inr (.inl m_fam))), ((ad 9), .inl (cI, 16, .inl m_generation)), ((ad 10), .inl (cI, 12, .inl m_level)), ((ad 17), .inl (cI, 800, .inl m_line_9))]) ([.ref (ad 0), .int v1] : List Value).toArray s 0 0 A) (F0 m 52 ls []) := by
      intro n52
      induction n52 with
      | zero => intro v5_52 v7_52 m_line_52 m_lineLength_52 ex52 H locs ls hf; rw [p10_printBox_L52] at hf; cases hf
      | succ n52 ih52 =>
        intro v5_52 v7_52 m_line_52 m_lineLength_52 ex52 H locs ls hf hk52 hP hD hS hl
        rw [p10_printBox_L52, p10_printBox_L52_B] at hf
        refine lv_iload hx hb dX10_printBox_52 (lv_at hl 5 rfl) ?_
        refine lv_if_le (tgt := 92) hx hb dX10_printBox_54 (by decide) (fun h9 => ?_) (fun h9 => ?_)
        · have hf := itt h9 hf
          cases hf
          have hf := hk52
          have hf := uc2_e hf
          exact J92 v3_41 v4_41 m_lineLength_52 m_line_52 H locs ls hf hP hD hS (lv_sub hl [0, 1, 2, 3] rfl)
        · have hf := itf h9 hf
          refine lv_aload_n hx hb dX10_printBox_57 rfl (lv_at hl 0 rfl) ?_
          refine lv_iload hx hb dX10_printBox_58 (lv_at hl 3 rfl) ?_
          refine lv_iload hx hb dX10_printBox_60 (lv_at hl 5 rfl) ?_
          refine lv_iadd hx hb dX10_printBox_62 ?_
          refine lv_bipush (v := 97) hx hb dX10_printBox_63 (by decide) ?_
          refine lv_lload hx hb dX10_printBox_65 (lv_at hl 4 rfl) ?_
          refine lv_ldc2 (own := RX10) (v := 27) hx hb hown (htg _ tw1801) dX10_printBox_67 ?_
          refine lv_lrem hx hb dX10_printBox_70 (by decide) ?_
          refine lv_l2i hx hb dX10_printBox_71 rfl ?_
          refine lv_iadd hx hb dX10_printBox_72 ?_
          refine lv_iconst (v := 1) hx hb dX10_printBox_73 (by decide) ?_
          refine lv_isub hx hb dX10_printBox_74 ?_
          obtain ⟨⟨m_line_75, m_lineLength_75⟩, h9, hf⟩ := ob_s hf
          have hf := uc2_e hf
          refine gcV (index := 199) S hE (c_X10_mark ad a_m_fam m_undoCount m_thrown m_hasSnapshot m_rows m_lineLength_52 m_formattedLength m_bufferLength m_limit m_next m_beginsAt m_token m_error m_errorAt m_errorPosition m_nested m_codeCount m_line_52 (v4_41 + v7_52) (((97 : Int32) + (v5_52 - v5_52 / (27 : Int64) * (27 : Int64)).toInt32) - (1 : Int32)) m_line_75 m_lineLength_75 h9) mX10_mark tw1789 ⟨Nat.le_of_ble_eq_true rfl, Nat.le_of_ble_eq_true rfl⟩ hP hD hS hA ⟨Nat.zero_le _, Nat.zero_le _⟩ 0 10 rfl rfl rfl (wr := [((ad 16), .inl (cI, 28, .inl m_column)), (a_m_fam, .inl (cJ, 130, .inr (.inl m_fam))), ((ad 9), .inl (cI, 16, .inl m_generation)), ((ad 10), .inl (cI, 12, .inl m_level))]) [0, 5] [1, 2, 3, 4] rfl rfl rfl rfl (by decide) (As := [.int (v4_41 + v7_52), .int (((97 : Int32) + (v5_52 - v5_52 / (27 : Int64) * (27 : Int64)).toInt32) - (1 : Int32))]) (rest := []) rfl hl.1 rfl (Nat.le_of_ble_eq_true rfl) dX10_printBox_75 (fun H locs hP hD hS => ?_)
          refine W.eq (g2 := F0 m 78 ls []) rfl ?_
          have hP : va_P (dC, dI) vwCl [((ad 16), .inl (cI, 28, .inl m_column)), (a_m_fam, .inl (cJ, 130, .inr (.inl m_fam))), ((ad 9), .inl (cI, 16, .inl m_generation)), ((ad 10), .inl (cI, 12, .inl m_level)), (ad 0, .inr (10, oM ad m_undoCount m_thrown m_hasSnapshot a_m_fam m_rows m_lineLength_75 m_formattedLength m_bufferLength m_limit m_next m_beginsAt m_token m_error m_errorAt m_errorPosition m_nested m_codeCount)), ((ad 17), .inl (cI, 800, .inl m_line_75))] H := hP
          have hD : va_D A [((ad 16), .inl (cI, 28, .inl m_column)), (a_m_fam, .inl (cJ, 130, .inr (.inl m_fam))), ((ad 9), .inl (cI, 16, .inl m_generation)), ((ad 10), .inl (cI, 12, .inl m_level)), (ad 0, .inr (10, oM ad m_undoCount m_thrown m_hasSnapshot a_m_fam m_rows m_lineLength_75 m_formattedLength m_bufferLength m_limit m_next m_beginsAt m_token m_error m_errorAt m_errorPosition m_nested m_codeCount)), ((ad 17), .inl (cI, 800, .inl m_line_75))] := hD
          refine lv_lload hx hb dX10_printBox_78 (lv_at hl 4 rfl) ?_
          refine lv_ldc2 (own := RX10) (v := 27) hx hb hown (htg _ tw1801) dX10_printBox_80 ?_
          refine lv_ldiv hx hb dX10_printBox_83 (by decide) ?_
          refine lv_topl (fun t84 h9 => ?_)
          have hf := lb_e h9 hf
          refine lv_lstore (lv' := [(5, .long t84), (0, .ref (ad 0)), (1, .int v1), (3, .int v3_41), (4, .int v4_41), (7, .int v7_52)]) hx hb dX10_printBox_84 hl (by decide) rfl (fun ls hl => ?_)
          obtain ⟨t86, h9⟩ : ∃ z : Int32, z = (v7_52 + (-1 : Int32)) := ⟨_, rfl⟩
          have hf := lb_e h9 hf
          refine lv_iinc (v := t86) (lv' := [(7, .int t86), (5, .long t84), (0, .ref (ad 0)), (1, .int v1), (3, .int v3_41), (4, .int v4_41)]) hx hb dX10_printBox_86 hl (k := 5) rfl (by rw [h9]; rfl) (by decide) rfl (fun ls hl => ?_)
          refine lv_goto (tgt := 52) hx hb dX10_printBox_89 (by decide) ?_
          exact ih52 t84 t86 m_line_75 m_lineLength_75 ex52 H locs ls hf hk52 (hP.sub [4, 0, 1, 2, 3, 5] rfl) (hD.sub [4, 0, 1, 2, 3, 5] (by decide) rfl) hS (lv_sub hl [2, 3, 4, 5, 1, 0] rfl)
    obtain ⟨ex, h9, hf⟩ := ob_s hf
    exact K52 FU r44 v3_41 m_line_41 m_lineLength_41 ex H locs ls h9 hf (hP.sub [4, 0, 5, 1, 2, 3] rfl) (hD.sub [4, 0, 5, 1, 2, 3] (by decide) rfl) hS (lv_sub hl [2, 3, 5, 6, 1, 0] rfl)
  refine lv_aload_n hx hb dX10_printBox_0 rfl (lv_at hl 0 rfl) ?_
  refine lv_iload_n hx hb dX10_printBox_1 rfl (lv_at hl 1 rfl) ?_
  obtain ⟨r2, h9, hf⟩ := ob_s hf
  refine gcV (index := 178) S hE (c_X10_personOf ad a_m_fam m_undoCount m_thrown m_hasSnapshot m_rows m_lineLength m_formattedLength m_bufferLength m_limit m_next m_beginsAt m_token m_error m_errorAt m_errorPosition m_nested m_codeCount m_fam m_generation m_level v1 r2 h9) mX10_personOf tw1629 ⟨Nat.le_of_ble_eq_true rfl, Nat.le_of_ble_eq_true rfl⟩ hP hD hS hA ⟨Nat.zero_le _, Nat.zero_le _⟩ 0 10 rfl rfl rfl (wr := [((ad 16), .inl (cI, 28, .inl m_column)), ((ad 17), .inl (cI, 800, .inl m_line))]) [0, 2, 3, 4] [1, 5] rfl rfl rfl rfl (by decide) (As := [.int v1]) (rest := []) rfl hl.1 rfl (Nat.le_of_ble_eq_true rfl) dX10_printBox_2 (fun H locs hP hD hS => ?_)
  refine W.eq (g2 := F0 m 5 ls [.int r2]) rfl ?_
  have hP : va_P (dC, dI) vwCl [((ad 16), .inl (cI, 28, .inl m_column)), ((ad 17), .inl (cI, 800, .inl m_line)), (ad 0, .inr (10, oM ad m_undoCount m_thrown m_hasSnapshot a_m_fam m_rows m_lineLength m_formattedLength m_bufferLength m_limit m_next m_beginsAt m_token m_error m_errorAt m_errorPosition m_nested m_codeCount)), (a_m_fam, .inl (cJ, 130, .inr (.inl m_fam))), ((ad 9), .inl (cI, 16, .inl m_generation)), ((ad 10), .inl (cI, 12, .inl m_level))] H := hP
  have hD : va_D A [((ad 16), .inl (cI, 28, .inl m_column)), ((ad 17), .inl (cI, 800, .inl m_line)), (ad 0, .inr (10, oM ad m_undoCount m_thrown m_hasSnapshot a_m_fam m_rows m_lineLength m_formattedLength m_bufferLength m_limit m_next m_beginsAt m_token m_error m_errorAt m_errorPosition m_nested m_codeCount)), (a_m_fam, .inl (cJ, 130, .inr (.inl m_fam))), ((ad 9), .inl (cI, 16, .inl m_generation)), ((ad 10), .inl (cI, 12, .inl m_level))] := hD
  refine lv_istore_n (lv' := [(2, .int r2), (0, .ref (ad 0)), (1, .int v1)]) hx hb dX10_printBox_5 rfl hl (by decide) rfl (fun ls hl => ?_)
  refine lv_aload_n hx hb dX10_printBox_6 rfl (lv_at hl 1 rfl) ?_
  refine lv_iload_n hx hb dX10_printBox_7 rfl (lv_at hl 0 rfl) ?_
  refine lv_iconst (v := 3) hx hb dX10_printBox_8 (by decide) ?_
  obtain ⟨r9, h9, hf⟩ := ob_s hf
  refine gcV (index := 98) S hE (c_X10_ofPerson ad a_m_fam m_undoCount m_thrown m_hasSnapshot m_rows m_lineLength m_formattedLength m_bufferLength m_limit m_next m_beginsAt m_token m_error m_errorAt m_errorPosition m_nested m_codeCount m_fam r2 (3 : Int32) r9 h9) mX10_ofPerson tw1519 ⟨Nat.le_of_ble_eq_true rfl, Nat.le_of_ble_eq_true rfl⟩ hP hD hS hA ⟨Nat.zero_le _, Nat.zero_le _⟩ 2 10 rfl rfl rfl (wr := [((ad 16), .inl (cI, 28, .inl m_column)), ((ad 17), .inl (cI, 800, .inl m_line)), ((ad 9), .inl (cI, 16, .inl m_generation)), ((ad 10), .inl (cI, 12, .inl m_level))]) [2, 3] [0, 1, 4, 5] rfl rfl rfl rfl (by decide) (As := [.int r2, .int (3 : Int32)]) (rest := []) rfl hl.1 rfl (Nat.le_of_ble_eq_true rfl) dX10_printBox_9 (fun H locs hP hD hS => ?_)
  refine W.eq (g2 := F0 m 12 ls [.long r9]) rfl ?_
  have hP : va_P (dC, dI) vwCl [((ad 16), .inl (cI, 28, .inl m_column)), ((ad 17), .inl (cI, 800, .inl m_line)), ((ad 9), .inl (cI, 16, .inl m_generation)), ((ad 10), .inl (cI, 12, .inl m_level)), (ad 0, .inr (10, oM ad m_undoCount m_thrown m_hasSnapshot a_m_fam m_rows m_lineLength m_formattedLength m_bufferLength m_limit m_next m_beginsAt m_token m_error m_errorAt m_errorPosition m_nested m_codeCount)), (a_m_fam, .inl (cJ, 130, .inr (.inl m_fam)))] H := hP
  have hD : va_D A [((ad 16), .inl (cI, 28, .inl m_column)), ((ad 17), .inl (cI, 800, .inl m_line)), ((ad 9), .inl (cI, 16, .inl m_generation)), ((ad 10), .inl (cI, 12, .inl m_level)), (ad 0, .inr (10, oM ad m_undoCount m_thrown m_hasSnapshot a_m_fam m_rows m_lineLength m_formattedLength m_bufferLength m_limit m_next m_beginsAt m_token m_error m_errorAt m_errorPosition m_nested m_codeCount)), (a_m_fam, .inl (cJ, 130, .inr (.inl m_fam)))] := hD
  refine lv_l2i hx hb dX10_printBox_12 rfl ?_
  refine lv_istore_n (lv' := [(3, .int r9.toInt32), (2, .int r2), (0, .ref (ad 0)), (1, .int v1)]) hx hb dX10_printBox_13 rfl hl (by decide) rfl (fun ls hl => ?_)
  refine lv_aload_n hx hb dX10_printBox_14 rfl (lv_at hl 2 rfl) ?_
  refine va_get (D := (dC, dI)) (ci := 10) (v := .ref (ad 16)) (C := RX10) (T := TX10) (N := 37) hx hb htg inX10 hown hE.1 hP 4 rfl rfl 15 (by decide) (htg _ tw1397) (fun _ h9 => h9) rfl dX10_printBox_15 ?_
  refine lv_iload_n hx hb dX10_printBox_18 rfl (lv_at hl 3 rfl) ?_
  obtain ⟨h9, hf⟩ := gd_s hf
  refine va_iald hx hb hE.1 hP 0 0 rfl rfl h9 dX10_printBox_19 ?_
  refine lv_topi (fun t20 h9 => ?_)
  have hf := lb_e h9 hf
  refine lv_istore (lv' := [(4, .int t20), (3, .int r9.toInt32), (2, .int r2), (0, .ref (ad 0)), (1, .int v1)]) hx hb dX10_printBox_20 hl (by decide) rfl (fun ls hl => ?_)
  refine lv_aload_n hx hb dX10_printBox_22 rfl (lv_at hl 3 rfl) ?_
  refine lv_iload hx hb dX10_printBox_23 (lv_at hl 0 rfl) ?_
  refine lv_iload_n hx hb dX10_printBox_25 rfl (lv_at hl 4 rfl) ?_
  refine lv_bipush (v := 16) hx hb dX10_printBox_26 (by decide) ?_
  refine lv_icmp_ge (tgt := 36) hx hb dX10_printBox_28 (by decide) (fun h9 => ?_) (fun h9 => ?_)
  · have hf := itt h9 hf
    refine lv_bipush (v := 40) hx hb dX10_printBox_36 (by decide) ?_
    obtain ⟨⟨m_line_38, m_lineLength_38⟩, h9, hf⟩ := ob_s hf
    have hf := uc2_e hf
    refine gcV (index := 199) S hE (c_X10_mark ad a_m_fam m_undoCount m_thrown m_hasSnapshot m_rows m_lineLength m_formattedLength m_bufferLength m_limit m_next m_beginsAt m_token m_error m_errorAt m_errorPosition m_nested m_codeCount m_line t20 (40 : Int32) m_line_38 m_lineLength_38 h9) mX10_mark tw1789 ⟨Nat.le_of_ble_eq_true rfl, Nat.le_of_ble_eq_true rfl⟩ hP hD hS hA ⟨Nat.zero_le _, Nat.zero_le _⟩ 4 10 rfl rfl rfl (wr := [((ad 16), .inl (cI, 28, .inl m_column)), ((ad 9), .inl (cI, 16, .inl m_generation)), ((ad 10), .inl (cI, 12, .inl m_level)), (a_m_fam, .inl (cJ, 130, .inr (.inl m_fam)))]) [4, 1] [0, 2, 3, 5] rfl rfl rfl rfl (by decide) (As := [.int t20, .int (40 : Int32)]) (rest := []) rfl hl.1 rfl (Nat.le_of_ble_eq_true rfl) dX10_printBox_38 (fun H locs hP hD hS => ?_)
    refine W.eq (g2 := F0 m 41 ls []) rfl ?_
    have hP : va_P (dC, dI) vwCl [((ad 16), .inl (cI, 28, .inl m_column)), ((ad 9), .inl (cI, 16, .inl m_generation)), ((ad 10), .inl (cI, 12, .inl m_level)), (a_m_fam, .inl (cJ, 130, .inr (.inl m_fam))), (ad 0, .inr (10, oM ad m_undoCount m_thrown m_hasSnapshot a_m_fam m_rows m_lineLength_38 m_formattedLength m_bufferLength m_limit m_next m_beginsAt m_token m_error m_errorAt m_errorPosition m_nested m_codeCount)), ((ad 17), .inl (cI, 800, .inl m_line_38))] H := hP
    have hD : va_D A [((ad 16), .inl (cI, 28, .inl m_column)), ((ad 9), .inl (cI, 16, .inl m_generation)), ((ad 10), .inl (cI, 12, .inl m_level)), (a_m_fam, .inl (cJ, 130, .inr (.inl m_fam))), (ad 0, .inr (10, oM ad m_undoCount m_thrown m_hasSnapshot a_m_fam m_rows m_lineLength_38 m_formattedLength m_bufferLength m_limit m_next m_beginsAt m_token m_error m_errorAt m_errorPosition m_nested m_codeCount)), ((ad 17), .inl (cI, 800, .inl m_line_38))] := hD
    exact J41 r2 r9.toInt32 t20 m_lineLength_38 m_line_38 H locs ls hf (hP.sub [4, 0, 3, 1, 2, 5] rfl) (hD.sub [4, 0, 3, 1, 2, 5] (by decide) rfl) hS (lv_sub hl [3, 4, 2, 1, 0] rfl)
  · have hf := itf h9 hf
    refine lv_bipush (v := 91) hx hb dX10_printBox_31 (by decide) ?_
    refine lv_goto (tgt := 38) hx hb dX10_printBox_33 (by decide) ?_
    obtain ⟨⟨m_line_38, m_lineLength_38⟩, h9, hf⟩ := ob_s hf
    have hf := uc2_e hf
    refine gcV (index := 199) S hE (c_X10_mark ad a_m_fam m_undoCount m_thrown m_hasSnapshot m_rows m_lineLength m_formattedLength m_bufferLength m_limit m_next m_beginsAt m_token m_error m_errorAt m_errorPosition m_nested m_codeCount m_line t20 (91 : Int32) m_line_38 m_lineLength_38 h9) mX10_mark tw1789 ⟨Nat.le_of_ble_eq_true rfl, Nat.le_of_ble_eq_true rfl⟩ hP hD hS hA ⟨Nat.zero_le _, Nat.zero_le _⟩ 4 10 rfl rfl rfl (wr := [((ad 16), .inl (cI, 28, .inl m_column)), ((ad 9), .inl (cI, 16, .inl m_generation)), ((ad 10), .inl (cI, 12, .inl m_level)), (a_m_fam, .inl (cJ, 130, .inr (.inl m_fam)))]) [4, 1] [0, 2, 3, 5] rfl rfl rfl rfl (by decide) (As := [.int t20, .int (91 : Int32)]) (rest := []) rfl hl.1 rfl (Nat.le_of_ble_eq_true rfl) dX10_printBox_38 (fun H locs hP hD hS => ?_)
    refine W.eq (g2 := F0 m 41 ls []) rfl ?_
    have hP : va_P (dC, dI) vwCl [((ad 16), .inl (cI, 28, .inl m_column)), ((ad 9), .inl (cI, 16, .inl m_generation)), ((ad 10), .inl (cI, 12, .inl m_level)), (a_m_fam, .inl (cJ, 130, .inr (.inl m_fam))), (ad 0, .inr (10, oM ad m_undoCount m_thrown m_hasSnapshot a_m_fam m_rows m_lineLength_38 m_formattedLength m_bufferLength m_limit m_next m_beginsAt m_token m_error m_errorAt m_errorPosition m_nested m_codeCount)), ((ad 17), .inl (cI, 800, .inl m_line_38))] H := hP
    have hD : va_D A [((ad 16), .inl (cI, 28, .inl m_column)), ((ad 9), .inl (cI, 16, .inl m_generation)), ((ad 10), .inl (cI, 12, .inl m_level)), (a_m_fam, .inl (cJ, 130, .inr (.inl m_fam))), (ad 0, .inr (10, oM ad m_undoCount m_thrown m_hasSnapshot a_m_fam m_rows m_lineLength_38 m_formattedLength m_bufferLength m_limit m_next m_beginsAt m_token m_error m_errorAt m_errorPosition m_nested m_codeCount)), ((ad 17), .inl (cI, 800, .inl m_line_38))] := hD
    exact J41 r2 r9.toInt32 t20 m_lineLength_38 m_line_38 H locs ls hf (hP.sub [4, 0, 3, 1, 2, 5] rfl) (hD.sub [4, 0, 3, 1, 2, 5] (by decide) rfl) hS (lv_sub hl [3, 4, 2, 1, 0] rfl)
set_option maxHeartbeats 4000000 in
set_option maxRecDepth 100000 in
theorem c_X10_printUnions (ad : Nat → Nat) (a_m_fam : Nat) (m_undoCount : Int32) (m_thrown : Int32) (m_hasSnapshot : Bool) (m_rows : Int32) (m_lineLength : Int32) (m_formattedLength : Int32) (m_bufferLength : Int32) (m_limit : Int32) (m_next : Int32) (m_beginsAt : Int32) (m_token : Int32) (m_error : Int32) (m_errorAt : Int32) (m_errorPosition : Int32) (m_nested : Int32) (m_codeCount : Int32) (m_column : Nat → Int32) (m_fam : Nat → Int64) (m_generation : Nat → Int32) (m_level : Nat → Int32) (m_line : Nat → Int32) (v1 : Int32) (m_line_9 : Nat → Int32) (m_lineLength_9 : Int32) (hf : p10_printUnions m_lineLength m_column m_fam m_generation m_level m_line v1 = some (m_line_9, m_lineLength_9)) : gM l dC dI cI cJ cZ yX10_printUnions cX10_printUnions 4 none (6) (129) [.ref (ad 0), .int v1] [(ad 0, .inr (10, oM ad m_undoCount m_thrown m_hasSnapshot a_m_fam m_rows m_lineLength m_formattedLength m_bufferLength m_limit m_next m_beginsAt m_token m_error m_errorAt m_errorPosition m_nested m_codeCount)), ((ad 16), .inl (cI, 28, .inl m_column)), (a_m_fam, .inl (cJ, 130, .inr (.inl m_fam))), ((ad 9), .inl (cI, 16, .inl m_generation)), ((ad 10), .inl (cI, 12, .inl m_level)), ((ad 17), .inl (cI, 800, .inl m_line))] [(ad 0, .inr (10, oM ad m_undoCount m_thrown m_hasSnapshot a_m_fam m_rows m_lineLength_9 m_formattedLength m_bufferLength m_limit m_next m_beginsAt m_token m_error m_errorAt m_errorPosition m_nested m_codeCount)), ((ad 16), .inl (cI, 28, .inl m_column)), (a_m_fam, .inl (cJ, 130, .inr (.inl m_fam))), ((ad 9), .inl (cI, 16, .inl m_generation)), ((ad 10), .inl (cI, 12, .inl m_level)), ((ad 17), .inl (cI, 800, .inl m_line_9))] none := by
  refine g_start (own := RX10) (by decide +kernel) rfl (Nat.le_of_ble_eq_true rfl) ?_
  intro p e s m below meth c A ls S hr hlocks hE hP hD hS hA hl hin
  have hx := S.1
  have hb := S.2.1
  have hml := S.2.2.1
  have hown := S.2.2.2.1
  have htg : ∀ z ∈ gw, z.before ([.ref (ad 0), .int v1] : List Value).toArray s = true := fun w h => S.2.2.2.2 w (List.mem_cons_of_mem _ h)
  have hl : lv_has ls 4 [(0, .ref (ad 0)), (1, .int v1)] := hl
  have hS0 := hS
  obtain ⟨H, hH⟩ : ∃ H, H = s.heap := ⟨_, rfl⟩
  obtain ⟨locs, hlc⟩ : ∃ locs : List Loc, locs = [] := ⟨_, rfl⟩
  have hS : va_S A s.heap H locs := by rw [hH, hlc]; exact hS0
  have hP : va_P (dC, dI) vwCl [(ad 0, .inr (10, oM ad m_undoCount m_thrown m_hasSnapshot a_m_fam m_rows m_lineLength m_formattedLength m_bufferLength m_limit m_next m_beginsAt m_token m_error m_errorAt m_errorPosition m_nested m_codeCount)), ((ad 16), .inl (cI, 28, .inl m_column)), (a_m_fam, .inl (cJ, 130, .inr (.inl m_fam))), ((ad 9), .inl (cI, 16, .inl m_generation)), ((ad 10), .inl (cI, 12, .inl m_level)), ((ad 17), .inl (cI, 800, .inl m_line))] H := by rw [hH]; exact hP
  suffices hgo : W p l e ({ frames := 6, cells := 0, slots := 0, locals := 129 }) s m ([.ref (ad 0), .int v1] : List Value).toArray below meth c H locs 0 0 (MQ below (gQ dC dI none A [(ad 0, .inr (10, oM ad m_undoCount m_thrown m_hasSnapshot a_m_fam m_rows m_lineLength_9 m_formattedLength m_bufferLength m_limit m_next m_beginsAt m_token m_error m_errorAt m_errorPosition m_nested m_codeCount)), ((ad 16), .inl (cI, 28, .inl m_column)), (a_m_fam, .inl (cJ, 130, .inr (.inl m_fam))), ((ad 9), .inl (cI, 16, .inl m_generation)), ((ad 10), .inl (cI, 12, .inl m_level)), ((ad 17), .inl (cI, 800, .inl m_line_9))]) ([.ref (ad 0), .int v1] : List Value).toArray s 0 0 A) (F0 m 0 ls []) by rw [hH, hlc] at hgo; exact hgo
  rw [p10_printUnions] at hf
  have J61 : ∀ (m_lineLength_61 : Int32) (m_line_61 : Nat → Int32) (H : Heap) (locs : List Loc) (ls : Array Slot), p10_printUnions_J61 m_lineLength_61 m_line_61 = some (m_line_9, m_lineLength_9) → va_P (dC, dI) vwCl [(ad 0, .inr (10, oM ad m_undoCount m_thrown m_hasSnapshot a_m_fam m_rows m_lineLength_61 m_formattedLength m_bufferLength m_limit m_next m_beginsAt m_token m_error m_errorAt m_errorPosition m_nested m_codeCount)), ((ad 16), .inl (cI, 28, .inl m_column)), (a_m_fam, .inl (cJ, 130, .inr (.inl m_fam))), ((ad 9), .inl (cI, 16, .inl m_generation)), ((ad 10), .inl (cI, 12, .inl m_level)), ((ad 17), .inl (cI, 800, .inl m_line_61))] H → va_D A [(ad 0, .inr (10, oM ad m_undoCount m_thrown m_hasSnapshot a_m_fam m_rows m_lineLength_61 m_formattedLength m_bufferLength m_limit m_next m_beginsAt m_token m_error m_errorAt m_errorPosition m_nested m_codeCount)), ((ad 16), .inl (cI, 28, .inl m_column)), (a_m_fam, .inl (cJ, 130, .inr (.inl m_fam))), ((ad 9), .inl (cI, 16, .inl m_generation)), ((ad 10), .inl (cI, 12, .inl m_level)), ((ad 17), .inl (cI, 800, .inl m_line_61))] → va_S A s.heap H locs → lv_has ls 4 [] → W p l e ({ frames := 6, cells := 0, slots := 0, locals := 129 }) s m ([.ref (ad 0), .int v1] : List Value).toArray below meth c H locs 0 0 (MQ below (gQ dC dI none A [(ad 0, .inr (10, oM ad m_undoCount m_thrown m_hasSnapshot a_m_fam m_rows m_lineLength_9 m_formattedLength m_bufferLength m_limit m_next m_beginsAt m_token m_error m_errorAt m_errorPosition m_nested m_codeCount)), ((ad 16), .inl (cI, 28, .inl m_column)), (a_m_fam, .inl (cJ, 130, .inr (.inl m_fam))), ((ad 9), .inl (cI, 16, .inl m_generation)), ((ad 10), .inl (cI, 12, .inl m_level)), ((ad 17), .inl (cI, 800, .inl m_line_9))]) ([.ref (ad 0), .int v1] : List Value).toArray s 0 0 A) (F0 m 61 ls []) := by
    intro m_lineLength_61 m_line_61 H locs ls hf hP hD hS hl
    rw [p10_printUnions_J61] at hf
    cases hf
    exact g_vret S hr hlocks hP hD hS dX10_printUnions_61
  refine lv_iconst (v := 0) hx hb dX10_printUnions_0 (by decide) ?_
  refine lv_istore_n (lv' := [(2, .int (0 : Int32)), (0, .ref (ad 0)), (1, .int v1)]) hx hb dX10_printUnions_1 rfl hl (by decide) rfl (fun ls hl => ?_)
  have K2 : ∀ (n2 : Nat) (v2_2 : Int32) (m_line_2 : Nat → Int32) (m_lineLength_2 : Int32) (ex2 : (Nat → Int32) × Int32) (H : Heap) (locs : List Loc) (ls : Array Slot), p10_printUnions_L2 m_column m_fam m_generation m_level v1 n2 v2_2 m_line_2 m_lineLength_2 = some ex2 → (uc2 fun m_line_x2 m_lineLength_x2 => p10_printUnions_J61 m_lineLength_x2 m_line_x2) ex2 = some (m_line_9, m_lineLength_9) → va_P (dC, dI) vwCl [(ad 0, .inr (10, oM ad m_undoCount m_thrown m_hasSnapshot a_m_fam m_rows m_lineLength_2 m_formattedLength m_bufferLength m_limit m_next m_beginsAt m_token m_error m_errorAt m_errorPosition m_nested m_codeCount)), ((ad 16), .inl (cI, 28, .inl m_column)), (a_m_fam, .inl (cJ, 130, .inr (.inl m_fam))), ((ad 9), .inl (cI, 16, .inl m_generation)), ((ad 10), .inl (cI, 12, .inl m_level)), ((ad 17), .inl (cI, 800, .inl m_line_2))] H → va_D A [(ad 0, .inr (10, oM ad m_undoCount m_thrown m_hasSnapshot a_m_fam m_rows m_lineLength_2 m_formattedLength m_bufferLength m_limit m_next m_beginsAt m_token m_error m_errorAt m_errorPosition m_nested m_codeCount)), ((ad 16), .inl (cI, 28, .inl m_column)), (a_m_fam, .inl (cJ, 130, .inr (.inl m_fam))), ((ad 9), .inl (cI, 16, .inl m_generation)), ((ad 10), .inl (cI, 12, .inl m_level)), ((ad 17), .inl (cI, 800, .inl m_line_2))] → va_S A s.heap H locs → lv_has ls 4 [(0, .ref (ad 0)), (1, .int v1), (2, .int v2_2)] → W p l e ({ frames := 6, cells := 0, slots := 0, locals := 129 }) s m ([.ref (ad 0), .int v1] : List Value).toArray below meth c H locs 0 0 (MQ below (gQ dC dI none A [(ad 0, .inr (10, oM ad m_undoCount m_thrown m_hasSnapshot a_m_fam m_rows m_lineLength_9 m_formattedLength m_bufferLength m_limit m_next m_beginsAt m_token m_error m_errorAt m_errorPosition m_nested m_codeCount)), ((ad 16), .inl (cI, 28, .inl m_column)), (a_m_fam, .inl (cJ, 130, .inr (.inl m_fam))), ((ad 9), .inl (cI, 16, .inl m_generation)), ((ad 10), .inl (cI, 12, .inl m_level)), ((ad 17), .inl (cI, 800, .inl m_line_9))]) ([.ref (ad 0), .int v1] : List Value).toArray s 0 0 A) (F0 m 2 ls []) := by
    intro n2
    induction n2 with
    | zero => intro v2_2 m_line_2 m_lineLength_2 ex2 H locs ls hf; rw [p10_printUnions_L2] at hf; cases hf
    | succ n2 ih2 =>
      intro v2_2 m_line_2 m_lineLength_2 ex2 H locs ls hf hk2 hP hD hS hl
      rw [p10_printUnions_L2, p10_printUnions_L2_B] at hf
      have J46 : ∀ (v3_46 : Int32) (H : Heap) (locs : List Loc) (ls : Array Slot), p10_printUnions_J46 (p10_printUnions_L2 m_column m_fam m_generation m_level v1 n2) m_lineLength_2 m_line_2 v2_2 v3_46 = some ex2 → va_P (dC, dI) vwCl [(ad 0, .inr (10, oM ad m_undoCount m_thrown m_hasSnapshot a_m_fam m_rows m_lineLength_2 m_formattedLength m_bufferLength m_limit m_next m_beginsAt m_token m_error m_errorAt m_errorPosition m_nested m_codeCount)), ((ad 16), .inl (cI, 28, .inl m_column)), (a_m_fam, .inl (cJ, 130, .inr (.inl m_fam))), ((ad 9), .inl (cI, 16, .inl m_generation)), ((ad 10), .inl (cI, 12, .inl m_level)), ((ad 17), .inl (cI, 800, .inl m_line_2))] H → va_D A [(ad 0, .inr (10, oM ad m_undoCount m_thrown m_hasSnapshot a_m_fam m_rows m_lineLength_2 m_formattedLength m_bufferLength m_limit m_next m_beginsAt m_token m_error m_errorAt m_errorPosition m_nested m_codeCount)), ((ad 16), .inl (cI, 28, .inl m_column)), (a_m_fam, .inl (cJ, 130, .inr (.inl m_fam))), ((ad 9), .inl (cI, 16, .inl m_generation)), ((ad 10), .inl (cI, 12, .inl m_level)), ((ad 17), .inl (cI, 800, .inl m_line_2))] → va_S A s.heap H locs → lv_has ls 4 [(0, .ref (ad 0)), (1, .int v1), (2, .int v2_2), (3, .int v3_46)] → W p l e ({ frames := 6, cells := 0, slots := 0, locals := 129 }) s m ([.ref (ad 0), .int v1] : List Value).toArray below meth c H locs 0 0 (MQ below (gQ dC dI none A [(ad 0, .inr (10, oM ad m_undoCount m_thrown m_hasSnapshot a_m_fam m_rows m_lineLength_9 m_formattedLength m_bufferLength m_limit m_next m_beginsAt m_token m_error m_errorAt m_errorPosition m_nested m_codeCount)), ((ad 16), .inl (cI, 28, .inl m_column)), (a_m_fam, .inl (cJ, 130, .inr (.inl m_fam))), ((ad 9), .inl (cI, 16, .inl m_generation)), ((ad 10), .inl (cI, 12, .inl m_level)), ((ad 17), .inl (cI, 800, .inl m_line_9))]) ([.ref (ad 0), .int v1] : List Value).toArray s 0 0 A) (F0 m 46 ls []) := by
        intro v3_46 H locs ls hf hP hD hS hl
        rw [p10_printUnions_J46] at hf
        refine lv_aload_n hx hb dX10_printUnions_46 rfl (lv_at hl 0 rfl) ?_
        refine lv_iload_n hx hb dX10_printUnions_47 rfl (lv_at hl 3 rfl) ?_
        refine lv_bipush (v := 97) hx hb dX10_printUnions_48 (by decide) ?_
        refine lv_iload_n hx hb dX10_printUnions_50 rfl (lv_at hl 2 rfl) ?_
        refine lv_iadd hx hb dX10_printUnions_51 ?_
        obtain ⟨⟨m_line_52, m_lineLength_52⟩, h9, hf⟩ := ob_s hf
        have hf := uc2_e hf
        refine gcV (index := 199) S hE (c_X10_mark ad a_m_fam m_undoCount m_thrown m_hasSnapshot m_rows m_lineLength_2 m_formattedLength m_bufferLength m_limit m_next m_beginsAt m_token m_error m_errorAt m_errorPosition m_nested m_codeCount m_line_2 v3_46 ((97 : Int32) + v2_2) m_line_52 m_lineLength_52 h9) mX10_mark tw1789 ⟨Nat.le_of_ble_eq_true rfl, Nat.le_of_ble_eq_true rfl⟩ hP hD hS hA ⟨Nat.zero_le _, Nat.zero_le _⟩ 0 10 rfl rfl rfl (wr := [((ad 16), .inl (cI, 28, .inl m_column)), (a_m_fam, .inl (cJ, 130, .inr (.inl m_fam))), ((ad 9), .inl (cI, 16, .inl m_generation)), ((ad 10), .inl (cI, 12, .inl m_level))]) [0, 5] [1, 2, 3, 4] rfl rfl rfl rfl (by decide) (As := [.int v3_46, .int ((97 : Int32) + v2_2)]) (rest := []) rfl hl.1 rfl (Nat.le_of_ble_eq_true rfl) dX10_printUnions_52 (fun H locs hP hD hS => ?_)
        refine W.eq (g2 := F0 m 55 ls []) rfl ?_
        have hP : va_P (dC, dI) vwCl [((ad 16), .inl (cI, 28, .inl m_column)), (a_m_fam, .inl (cJ, 130, .inr (.inl m_fam))), ((ad 9), .inl (cI, 16, .inl m_generation)), ((ad 10), .inl (cI, 12, .inl m_level)), (ad 0, .inr (10, oM ad m_undoCount m_thrown m_hasSnapshot a_m_fam m_rows m_lineLength_52 m_formattedLength m_bufferLength m_limit m_next m_beginsAt m_token m_error m_errorAt m_errorPosition m_nested m_codeCount)), ((ad 17), .inl (cI, 800, .inl m_line_52))] H := hP
        have hD : va_D A [((ad 16), .inl (cI, 28, .inl m_column)), (a_m_fam, .inl (cJ, 130, .inr (.inl m_fam))), ((ad 9), .inl (cI, 16, .inl m_generation)), ((ad 10), .inl (cI, 12, .inl m_level)), (ad 0, .inr (10, oM ad m_undoCount m_thrown m_hasSnapshot a_m_fam m_rows m_lineLength_52 m_formattedLength m_bufferLength m_limit m_next m_beginsAt m_token m_error m_errorAt m_errorPosition m_nested m_codeCount)), ((ad 17), .inl (cI, 800, .inl m_line_52))] := hD
        obtain ⟨t55, h9⟩ : ∃ z : Int32, z = (v2_2 + (1 : Int32)) := ⟨_, rfl⟩
        have hf := lb_e h9 hf
        refine lv_iinc (v := t55) (lv' := [(2, .int t55), (0, .ref (ad 0)), (1, .int v1), (3, .int v3_46)]) hx hb dX10_printUnions_55 hl (k := 2) rfl (by rw [h9]; rfl) (by decide) rfl (fun ls hl => ?_)
        refine lv_goto (tgt := 2) hx hb dX10_printUnions_58 (by decide) ?_
        exact ih2 t55 m_line_52 m_lineLength_52 ex2 H locs ls hf hk2 (hP.sub [4, 0, 1, 2, 3, 5] rfl) (hD.sub [4, 0, 1, 2, 3, 5] (by decide) rfl) hS (lv_sub hl [1, 2, 0] rfl)
      refine lv_iload_n hx hb dX10_printUnions_2 rfl (lv_at hl 2 rfl) ?_
      refine lv_aload_n hx hb dX10_printUnions_3 rfl (lv_at hl 0 rfl) ?_
      obtain ⟨r4, h9, hf⟩ := ob_s hf
      refine gcV (index := 110) S hE (c_X10_unions ad a_m_fam m_undoCount m_thrown m_hasSnapshot m_rows m_lineLength_2 m_formattedLength m_bufferLength m_limit m_next m_beginsAt m_token m_error m_errorAt m_errorPosition m_nested m_codeCount m_fam r4 h9) mX10_unions tw1532 ⟨Nat.le_of_ble_eq_true rfl, Nat.le_of_ble_eq_true rfl⟩ hP hD hS hA ⟨Nat.zero_le _, Nat.zero_le _⟩ 0 10 rfl rfl rfl (wr := [((ad 16), .inl (cI, 28, .inl m_column)), ((ad 9), .inl (cI, 16, .inl m_generation)), ((ad 10), .inl (cI, 12, .inl m_level)), ((ad 17), .inl (cI, 800, .inl m_line_2))]) [0, 2] [1, 3, 4, 5] rfl rfl rfl rfl (by decide) (As := []) (rest := [.int v2_2]) rfl hl.1 rfl (Nat.le_of_ble_eq_true rfl) dX10_printUnions_4 (fun H locs hP hD hS => ?_)
      refine W.eq (g2 := F0 m 7 ls [.int r4, .int v2_2]) rfl ?_
      have hP : va_P (dC, dI) vwCl [((ad 16), .inl (cI, 28, .inl m_column)), ((ad 9), .inl (cI, 16, .inl m_generation)), ((ad 10), .inl (cI, 12, .inl m_level)), ((ad 17), .inl (cI, 800, .inl m_line_2)), (ad 0, .inr (10, oM ad m_undoCount m_thrown m_hasSnapshot a_m_fam m_rows m_lineLength_2 m_formattedLength m_bufferLength m_limit m_next m_beginsAt m_token m_error m_errorAt m_errorPosition m_nested m_codeCount)), (a_m_fam, .inl (cJ, 130, .inr (.inl m_fam)))] H := hP
      have hD : va_D A [((ad 16), .inl (cI, 28, .inl m_column)), ((ad 9), .inl (cI, 16, .inl m_generation)), ((ad 10), .inl (cI, 12, .inl m_level)), ((ad 17), .inl (cI, 800, .inl m_line_2)), (ad 0, .inr (10, oM ad m_undoCount m_thrown m_hasSnapshot a_m_fam m_rows m_lineLength_2 m_formattedLength m_bufferLength m_limit m_next m_beginsAt m_token m_error m_errorAt m_errorPosition m_nested m_codeCount)), (a_m_fam, .inl (cJ, 130, .inr (.inl m_fam)))] := hD
      refine lv_icmp_ge (tgt := 61) hx hb dX10_printUnions_7 (by decide) (fun h9 => ?_) (fun h9 => ?_)
      · have hf := itt h9 hf
        cases hf
        have hf := hk2
        have hf := uc2_e hf
        exact J61 m_lineLength_2 m_line_2 H locs ls hf (hP.sub [4, 0, 5, 1, 2, 3] rfl) (hD.sub [4, 0, 5, 1, 2, 3] (by decide) rfl) hS (lv_sub hl [] rfl)
      · have hf := itf h9 hf
        refine lv_aload_n hx hb dX10_printUnions_10 rfl (lv_at hl 0 rfl) ?_
        refine va_get (D := (dC, dI)) (ci := 10) (v := .ref (ad 10)) (C := RX10) (T := TX10) (N := 37) hx hb htg inX10 hown hE.1 hP 4 rfl rfl 9 (by decide) (htg _ tw1391) (fun _ h9 => h9) rfl dX10_printUnions_11 ?_
        refine lv_iload_n hx hb dX10_printUnions_14 rfl (lv_at hl 2 rfl) ?_
        obtain ⟨h9, hf⟩ := gd_s hf
        refine va_iald hx hb hE.1 hP 2 0 rfl rfl h9 dX10_printUnions_15 ?_
        refine lv_iload_n hx hb dX10_printUnions_16 rfl (lv_at hl 1 rfl) ?_
        refine lv_icmp_eq (tgt := 23) hx hb dX10_printUnions_17 (by decide) (fun h9 => ?_) (fun h9 => ?_)
        · have hf := itt h9 hf
          refine lv_aload_n hx hb dX10_printUnions_23 rfl (lv_at hl 0 rfl) ?_
          refine lv_iload_n hx hb dX10_printUnions_24 rfl (lv_at hl 2 rfl) ?_
          obtain ⟨r25, h9, hf⟩ := ob_s hf
          refine gcV (index := 187) S hE (c_X10_unionColumn ad a_m_fam m_undoCount m_thrown m_hasSnapshot m_rows m_lineLength_2 m_formattedLength m_bufferLength m_limit m_next m_beginsAt m_token m_error m_errorAt m_errorPosition m_nested m_codeCount m_column m_fam m_generation m_level v2_2 r25 h9) mX10_unionColumn tw1613 ⟨Nat.le_of_ble_eq_true rfl, Nat.le_of_ble_eq_true rfl⟩ hP hD hS hA ⟨Nat.zero_le _, Nat.zero_le _⟩ 4 10 rfl rfl rfl (wr := [((ad 17), .inl (cI, 800, .inl m_line_2))]) [4, 0, 5, 1, 2] [3] rfl rfl rfl rfl (by decide) (As := [.int v2_2]) (rest := []) rfl hl.1 rfl (Nat.le_of_ble_eq_true rfl) dX10_printUnions_25 (fun H locs hP hD hS => ?_)
          refine W.eq (g2 := F0 m 28 ls [.int r25]) rfl ?_
          have hP : va_P (dC, dI) vwCl [((ad 17), .inl (cI, 800, .inl m_line_2)), (ad 0, .inr (10, oM ad m_undoCount m_thrown m_hasSnapshot a_m_fam m_rows m_lineLength_2 m_formattedLength m_bufferLength m_limit m_next m_beginsAt m_token m_error m_errorAt m_errorPosition m_nested m_codeCount)), ((ad 16), .inl (cI, 28, .inl m_column)), (a_m_fam, .inl (cJ, 130, .inr (.inl m_fam))), ((ad 9), .inl (cI, 16, .inl m_generation)), ((ad 10), .inl (cI, 12, .inl m_level))] H := hP
          have hD : va_D A [((ad 17), .inl (cI, 800, .inl m_line_2)), (ad 0, .inr (10, oM ad m_undoCount m_thrown m_hasSnapshot a_m_fam m_rows m_lineLength_2 m_formattedLength m_bufferLength m_limit m_next m_beginsAt m_token m_error m_errorAt m_errorPosition m_nested m_codeCount)), ((ad 16), .inl (cI, 28, .inl m_column)), (a_m_fam, .inl (cJ, 130, .inr (.inl m_fam))), ((ad 9), .inl (cI, 16, .inl m_generation)), ((ad 10), .inl (cI, 12, .inl m_level))] := hD
          refine lv_istore_n (lv' := [(3, .int r25), (0, .ref (ad 0)), (1, .int v1), (2, .int v2_2)]) hx hb dX10_printUnions_28 rfl hl (by decide) rfl (fun ls hl => ?_)
          have K29 : ∀ (n29 : Nat) (v3_29 : Int32) (ex29 : Int32) (H : Heap) (locs : List Loc) (ls : Array Slot), p10_printUnions_L29 m_line_2 n29 v3_29 = some ex29 → (fun v3_x29 => p10_printUnions_J46 (p10_printUnions_L2 m_column m_fam m_generation m_level v1 n2) m_lineLength_2 m_line_2 v2_2 v3_x29) ex29 = some ex2 → va_P (dC, dI) vwCl [(ad 0, .inr (10, oM ad m_undoCount m_thrown m_hasSnapshot a_m_fam m_rows m_lineLength_2 m_formattedLength m_bufferLength m_limit m_next m_beginsAt m_token m_error m_errorAt m_errorPosition m_nested m_codeCount)), ((ad 16), .inl (cI, 28, .inl m_column)), (a_m_fam, .inl (cJ, 130, .inr (.inl m_fam))), ((ad 9), .inl (cI, 16, .inl m_generation)), ((ad 10), .inl (cI, 12, .inl m_level)), ((ad 17), .inl (cI, 800, .inl m_line_2))] H → va_D A [(ad 0, .inr (10, oM ad m_undoCount m_thrown m_hasSnapshot a_m_fam m_rows m_lineLength_2 m_formattedLength m_bufferLength m_limit m_next m_beginsAt m_token m_error m_errorAt m_errorPosition m_nested m_codeCount)), ((ad 16), .inl (cI, 28, .inl m_column)), (a_m_fam, .inl (cJ, 130, .inr (.inl m_fam))), ((ad 9), .inl (cI, 16, .inl m_generation)), ((ad 10), .inl (cI, 12, .inl m_level)), ((ad 17), .inl (cI, 800, .inl m_line_2))] → va_S A s.heap H locs → lv_has ls 4 [(0, .ref (ad 0)), (1, .int v1), (2, .int v2_2), (3, .int v3_29)] → W p l e ({ frames := 6, cells := 0, slots := 0, locals := 129 }) s m ([.ref (ad 0), .int v1] : List Value).toArray below meth c H locs 0 0 (MQ below (gQ dC dI none A [(ad 0, .inr (10, oM ad m_undoCount m_thrown m_hasSnapshot a_m_fam m_rows m_lineLength_9 m_formattedLength m_bufferLength m_limit m_next m_beginsAt m_token m_error m_errorAt m_errorPosition m_nested m_codeCount)), ((ad 16), .inl (cI, 28, .inl m_column)), (a_m_fam, .inl (cJ, 130, .inr (.inl m_fam))), ((ad 9), .inl (cI, 16, .inl m_generation)), ((ad 10), .inl (cI, 12, .inl m_level)), ((ad 17), .inl (cI, 800, .inl m_line_9))]) ([.ref (ad 0), .int v1] : List Value).toArray s 0 0 A) (F0 m 29 ls []) := by
            intro n29
            induction n29 with
            | zero => intro v3_29 ex29 H locs ls hf; rw [p10_printUnions_L29] at hf; cases hf
            | succ n29 ih29 =>
              intro v3_29 ex29 H locs ls hf hk29 hP hD hS hl
              rw [p10_printUnions_L29, p10_printUnions_L29_B] at hf
              refine lv_aload_n hx hb dX10_printUnions_29 rfl (lv_at hl 0 rfl) ?_
              refine va_get (D := (dC, dI)) (ci := 10) (v := .ref (ad 17)) (C := RX10) (T := TX10) (N := 37) hx hb htg inX10 hown hE.1 hP 0 rfl rfl 16 (by decide) (htg _ tw1398) (fun _ h9 => h9) rfl dX10_printUnions_30 ?_
              refine lv_iload_n hx hb dX10_printUnions_33 rfl (lv_at hl 3 rfl) ?_
              obtain ⟨h9, hf⟩ := gd_s hf
              refine va_iald hx hb hE.1 hP 5 0 rfl rfl h9 dX10_printUnions_34 ?_
              refine lv_bipush (v := 32) hx hb dX10_printUnions_35 (by decide) ?_
              refine lv_icmp_eq (tgt := 46) hx hb dX10_printUnions_37 (by decide) (fun h9 => ?_) (fun h9 => ?_)
              · have hf := itt h9 hf
                cases hf
                have hf := hk29
                exact J46 v3_29 H locs ls hf hP hD hS (lv_sub hl [0, 1, 2, 3] rfl)
              · have hf := itf h9 hf
                obtain ⟨t40, h9⟩ : ∃ z : Int32, z = (v3_29 + (1 : Int32)) := ⟨_, rfl⟩
                have hf := lb_e h9 hf
                refine lv_iinc (v := t40) (lv' := [(3, .int t40), (0, .ref (ad 0)), (1, .int v1), (2, .int v2_2)]) hx hb dX10_printUnions_40 hl (k := 3) rfl (by rw [h9]; rfl) (by decide) rfl (fun ls hl => ?_)
                refine lv_goto (tgt := 29) hx hb dX10_printUnions_43 (by decide) ?_
                exact ih29 t40 ex29 H locs ls hf hk29 hP hD hS (lv_sub hl [1, 2, 3, 0] rfl)
          obtain ⟨ex, h9, hf⟩ := ob_s hf
          exact K29 FU r25 ex H locs ls h9 hf (hP.sub [1, 2, 3, 4, 5, 0] rfl) (hD.sub [1, 2, 3, 4, 5, 0] (by decide) rfl) hS (lv_sub hl [1, 2, 3, 0] rfl)
        · have hf := itf h9 hf
          refine lv_goto (tgt := 55) hx hb dX10_printUnions_20 (by decide) ?_
          obtain ⟨t55, h9⟩ : ∃ z : Int32, z = (v2_2 + (1 : Int32)) := ⟨_, rfl⟩
          have hf := lb_e h9 hf
          refine lv_iinc (v := t55) (lv' := [(2, .int t55), (0, .ref (ad 0)), (1, .int v1)]) hx hb dX10_printUnions_55 hl (k := 2) rfl (by rw [h9]; rfl) (by decide) rfl (fun ls hl => ?_)
          refine lv_goto (tgt := 2) hx hb dX10_printUnions_58 (by decide) ?_
          exact ih2 t55 m_line_2 m_lineLength_2 ex2 H locs ls hf hk2 (hP.sub [4, 0, 5, 1, 2, 3] rfl) (hD.sub [4, 0, 5, 1, 2, 3] (by decide) rfl) hS (lv_sub hl [1, 2, 0] rfl)
  obtain ⟨ex, h9, hf⟩ := ob_s hf
  exact K2 FU (0 : Int32) m_line m_lineLength ex H locs ls h9 hf hP hD hS (lv_sub hl [1, 2, 0] rfl)
set_option maxHeartbeats 4000000 in
set_option maxRecDepth 100000 in
theorem c_X10_printChildren (ad : Nat → Nat) (a_m_fam : Nat) (m_undoCount : Int32) (m_thrown : Int32) (m_hasSnapshot : Bool) (m_rows : Int32) (m_lineLength : Int32) (m_formattedLength : Int32) (m_bufferLength : Int32) (m_limit : Int32) (m_next : Int32) (m_beginsAt : Int32) (m_token : Int32) (m_error : Int32) (m_errorAt : Int32) (m_errorPosition : Int32) (m_nested : Int32) (m_codeCount : Int32) (m_column : Nat → Int32) (m_fam : Nat → Int64) (m_generation : Nat → Int32) (m_level : Nat → Int32) (m_line : Nat → Int32) (v1 : Int32) (m_line_9 : Nat → Int32) (m_lineLength_9 : Int32) (hf : p10_printChildren m_lineLength m_column m_fam m_generation m_level m_line v1 = some (m_line_9, m_lineLength_9)) : gM l dC dI cI cJ cZ yX10_printChildren cX10_printChildren 4 none (5) (108) [.ref (ad 0), .int v1] [(ad 0, .inr (10, oM ad m_undoCount m_thrown m_hasSnapshot a_m_fam m_rows m_lineLength m_formattedLength m_bufferLength m_limit m_next m_beginsAt m_token m_error m_errorAt m_errorPosition m_nested m_codeCount)), ((ad 16), .inl (cI, 28, .inl m_column)), (a_m_fam, .inl (cJ, 130, .inr (.inl m_fam))), ((ad 9), .inl (cI, 16, .inl m_generation)), ((ad 10), .inl (cI, 12, .inl m_level)), ((ad 17), .inl (cI, 800, .inl m_line))] [(ad 0, .inr (10, oM ad m_undoCount m_thrown m_hasSnapshot a_m_fam m_rows m_lineLength_9 m_formattedLength m_bufferLength m_limit m_next m_beginsAt m_token m_error m_errorAt m_errorPosition m_nested m_codeCount)), ((ad 16), .inl (cI, 28, .inl m_column)), (a_m_fam, .inl (cJ, 130, .inr (.inl m_fam))), ((ad 9), .inl (cI, 16, .inl m_generation)), ((ad 10), .inl (cI, 12, .inl m_level)), ((ad 17), .inl (cI, 800, .inl m_line_9))] none := by
  refine g_start (own := RX10) (by decide +kernel) rfl (Nat.le_of_ble_eq_true rfl) ?_
  intro p e s m below meth c A ls S hr hlocks hE hP hD hS hA hl hin
  have hx := S.1
  have hb := S.2.1
  have hml := S.2.2.1
  have hown := S.2.2.2.1
  have htg : ∀ z ∈ gw, z.before ([.ref (ad 0), .int v1] : List Value).toArray s = true := fun w h => S.2.2.2.2 w (List.mem_cons_of_mem _ h)
  have hl : lv_has ls 4 [(0, .ref (ad 0)), (1, .int v1)] := hl
  have hS0 := hS
  obtain ⟨H, hH⟩ : ∃ H, H = s.heap := ⟨_, rfl⟩
  obtain ⟨locs, hlc⟩ : ∃ locs : List Loc, locs = [] := ⟨_, rfl⟩
  have hS : va_S A s.heap H locs := by rw [hH, hlc]; exact hS0
  have hP : va_P (dC, dI) vwCl [(ad 0, .inr (10, oM ad m_undoCount m_thrown m_hasSnapshot a_m_fam m_rows m_lineLength m_formattedLength m_bufferLength m_limit m_next m_beginsAt m_token m_error m_errorAt m_errorPosition m_nested m_codeCount)), ((ad 16), .inl (cI, 28, .inl m_column)), (a_m_fam, .inl (cJ, 130, .inr (.inl m_fam))), ((ad 9), .inl (cI, 16, .inl m_generation)), ((ad 10), .inl (cI, 12, .inl m_level)), ((ad 17), .inl (cI, 800, .inl m_line))] H := by rw [hH]; exact hP
  suffices hgo : W p l e ({ frames := 5, cells := 0, slots := 0, locals := 108 }) s m ([.ref (ad 0), .int v1] : List Value).toArray below meth c H locs 0 0 (MQ below (gQ dC dI none A [(ad 0, .inr (10, oM ad m_undoCount m_thrown m_hasSnapshot a_m_fam m_rows m_lineLength_9 m_formattedLength m_bufferLength m_limit m_next m_beginsAt m_token m_error m_errorAt m_errorPosition m_nested m_codeCount)), ((ad 16), .inl (cI, 28, .inl m_column)), (a_m_fam, .inl (cJ, 130, .inr (.inl m_fam))), ((ad 9), .inl (cI, 16, .inl m_generation)), ((ad 10), .inl (cI, 12, .inl m_level)), ((ad 17), .inl (cI, 800, .inl m_line_9))]) ([.ref (ad 0), .int v1] : List Value).toArray s 0 0 A) (F0 m 0 ls []) by rw [hH, hlc] at hgo; exact hgo
  rw [p10_printChildren] at hf
  have J55 : ∀ (m_lineLength_55 : Int32) (m_line_55 : Nat → Int32) (H : Heap) (locs : List Loc) (ls : Array Slot), p10_printChildren_J55 m_lineLength_55 m_line_55 = some (m_line_9, m_lineLength_9) → va_P (dC, dI) vwCl [(ad 0, .inr (10, oM ad m_undoCount m_thrown m_hasSnapshot a_m_fam m_rows m_lineLength_55 m_formattedLength m_bufferLength m_limit m_next m_beginsAt m_token m_error m_errorAt m_errorPosition m_nested m_codeCount)), ((ad 16), .inl (cI, 28, .inl m_column)), (a_m_fam, .inl (cJ, 130, .inr (.inl m_fam))), ((ad 9), .inl (cI, 16, .inl m_generation)), ((ad 10), .inl (cI, 12, .inl m_level)), ((ad 17), .inl (cI, 800, .inl m_line_55))] H → va_D A [(ad 0, .inr (10, oM ad m_undoCount m_thrown m_hasSnapshot a_m_fam m_rows m_lineLength_55 m_formattedLength m_bufferLength m_limit m_next m_beginsAt m_token m_error m_errorAt m_errorPosition m_nested m_codeCount)), ((ad 16), .inl (cI, 28, .inl m_column)), (a_m_fam, .inl (cJ, 130, .inr (.inl m_fam))), ((ad 9), .inl (cI, 16, .inl m_generation)), ((ad 10), .inl (cI, 12, .inl m_level)), ((ad 17), .inl (cI, 800, .inl m_line_55))] → va_S A s.heap H locs → lv_has ls 4 [] → W p l e ({ frames := 5, cells := 0, slots := 0, locals := 108 }) s m ([.ref (ad 0), .int v1] : List Value).toArray below meth c H locs 0 0 (MQ below (gQ dC dI none A [(ad 0, .inr (10, oM ad m_undoCount m_thrown m_hasSnapshot a_m_fam m_rows m_lineLength_9 m_formattedLength m_bufferLength m_limit m_next m_beginsAt m_token m_error m_errorAt m_errorPosition m_nested m_codeCount)), ((ad 16), .inl (cI, 28, .inl m_column)), (a_m_fam, .inl (cJ, 130, .inr (.inl m_fam))), ((ad 9), .inl (cI, 16, .inl m_generation)), ((ad 10), .inl (cI, 12, .inl m_level)), ((ad 17), .inl (cI, 800, .inl m_line_9))]) ([.ref (ad 0), .int v1] : List Value).toArray s 0 0 A) (F0 m 55 ls []) := by
    intro m_lineLength_55 m_line_55 H locs ls hf hP hD hS hl
    rw [p10_printChildren_J55] at hf
    cases hf
    exact g_vret S hr hlocks hP hD hS dX10_printChildren_55
  refine lv_iconst (v := 0) hx hb dX10_printChildren_0 (by decide) ?_
  refine lv_istore_n (lv' := [(2, .int (0 : Int32)), (0, .ref (ad 0)), (1, .int v1)]) hx hb dX10_printChildren_1 rfl hl (by decide) rfl (fun ls hl => ?_)
  have K2 : ∀ (n2 : Nat) (v2_2 : Int32) (m_line_2 : Nat → Int32) (m_lineLength_2 : Int32) (ex2 : (Nat → Int32) × Int32) (H : Heap) (locs : List Loc) (ls : Array Slot), p10_printChildren_L2 m_column m_fam m_generation m_level v1 n2 v2_2 m_line_2 m_lineLength_2 = some ex2 → (uc2 fun m_line_x2 m_lineLength_x2 => p10_printChildren_J55 m_lineLength_x2 m_line_x2) ex2 = some (m_line_9, m_lineLength_9) → va_P (dC, dI) vwCl [(ad 0, .inr (10, oM ad m_undoCount m_thrown m_hasSnapshot a_m_fam m_rows m_lineLength_2 m_formattedLength m_bufferLength m_limit m_next m_beginsAt m_token m_error m_errorAt m_errorPosition m_nested m_codeCount)), ((ad 16), .inl (cI, 28, .inl m_column)), (a_m_fam, .inl (cJ, 130, .inr (.inl m_fam))), ((ad 9), .inl (cI, 16, .inl m_generation)), ((ad 10), .inl (cI, 12, .inl m_level)), ((ad 17), .inl (cI, 800, .inl m_line_2))] H → va_D A [(ad 0, .inr (10, oM ad m_undoCount m_thrown m_hasSnapshot a_m_fam m_rows m_lineLength_2 m_formattedLength m_bufferLength m_limit m_next m_beginsAt m_token m_error m_errorAt m_errorPosition m_nested m_codeCount)), ((ad 16), .inl (cI, 28, .inl m_column)), (a_m_fam, .inl (cJ, 130, .inr (.inl m_fam))), ((ad 9), .inl (cI, 16, .inl m_generation)), ((ad 10), .inl (cI, 12, .inl m_level)), ((ad 17), .inl (cI, 800, .inl m_line_2))] → va_S A s.heap H locs → lv_has ls 4 [(0, .ref (ad 0)), (1, .int v1), (2, .int v2_2)] → W p l e ({ frames := 5, cells := 0, slots := 0, locals := 108 }) s m ([.ref (ad 0), .int v1] : List Value).toArray below meth c H locs 0 0 (MQ below (gQ dC dI none A [(ad 0, .inr (10, oM ad m_undoCount m_thrown m_hasSnapshot a_m_fam m_rows m_lineLength_9 m_formattedLength m_bufferLength m_limit m_next m_beginsAt m_token m_error m_errorAt m_errorPosition m_nested m_codeCount)), ((ad 16), .inl (cI, 28, .inl m_column)), (a_m_fam, .inl (cJ, 130, .inr (.inl m_fam))), ((ad 9), .inl (cI, 16, .inl m_generation)), ((ad 10), .inl (cI, 12, .inl m_level)), ((ad 17), .inl (cI, 800, .inl m_line_9))]) ([.ref (ad 0), .int v1] : List Value).toArray s 0 0 A) (F0 m 2 ls []) := by
    intro n2
    induction n2 with
    | zero => intro v2_2 m_line_2 m_lineLength_2 ex2 H locs ls hf; rw [p10_printChildren_L2] at hf; cases hf
    | succ n2 ih2 =>
      intro v2_2 m_line_2 m_lineLength_2 ex2 H locs ls hf hk2 hP hD hS hl
      rw [p10_printChildren_L2, p10_printChildren_L2_B] at hf
      refine lv_iload_n hx hb dX10_printChildren_2 rfl (lv_at hl 2 rfl) ?_
      refine lv_aload_n hx hb dX10_printChildren_3 rfl (lv_at hl 0 rfl) ?_
      obtain ⟨r4, h9, hf⟩ := ob_s hf
      refine gcV (index := 121) S hE (c_X10_persons ad a_m_fam m_undoCount m_thrown m_hasSnapshot m_rows m_lineLength_2 m_formattedLength m_bufferLength m_limit m_next m_beginsAt m_token m_error m_errorAt m_errorPosition m_nested m_codeCount m_fam r4 h9) mX10_persons tw1511 ⟨Nat.le_of_ble_eq_true rfl, Nat.le_of_ble_eq_true rfl⟩ hP hD hS hA ⟨Nat.zero_le _, Nat.zero_le _⟩ 0 10 rfl rfl rfl (wr := [((ad 16), .inl (cI, 28, .inl m_column)), ((ad 9), .inl (cI, 16, .inl m_generation)), ((ad 10), .inl (cI, 12, .inl m_level)), ((ad 17), .inl (cI, 800, .inl m_line_2))]) [0, 2] [1, 3, 4, 5] rfl rfl rfl rfl (by decide) (As := []) (rest := [.int v2_2]) rfl hl.1 rfl (Nat.le_of_ble_eq_true rfl) dX10_printChildren_4 (fun H locs hP hD hS => ?_)
      refine W.eq (g2 := F0 m 7 ls [.int r4, .int v2_2]) rfl ?_
      have hP : va_P (dC, dI) vwCl [((ad 16), .inl (cI, 28, .inl m_column)), ((ad 9), .inl (cI, 16, .inl m_generation)), ((ad 10), .inl (cI, 12, .inl m_level)), ((ad 17), .inl (cI, 800, .inl m_line_2)), (ad 0, .inr (10, oM ad m_undoCount m_thrown m_hasSnapshot a_m_fam m_rows m_lineLength_2 m_formattedLength m_bufferLength m_limit m_next m_beginsAt m_token m_error m_errorAt m_errorPosition m_nested m_codeCount)), (a_m_fam, .inl (cJ, 130, .inr (.inl m_fam)))] H := hP
      have hD : va_D A [((ad 16), .inl (cI, 28, .inl m_column)), ((ad 9), .inl (cI, 16, .inl m_generation)), ((ad 10), .inl (cI, 12, .inl m_level)), ((ad 17), .inl (cI, 800, .inl m_line_2)), (ad 0, .inr (10, oM ad m_undoCount m_thrown m_hasSnapshot a_m_fam m_rows m_lineLength_2 m_formattedLength m_bufferLength m_limit m_next m_beginsAt m_token m_error m_errorAt m_errorPosition m_nested m_codeCount)), (a_m_fam, .inl (cJ, 130, .inr (.inl m_fam)))] := hD
      refine lv_icmp_ge (tgt := 55) hx hb dX10_printChildren_7 (by decide) (fun h9 => ?_) (fun h9 => ?_)
      · have hf := itt h9 hf
        cases hf
        have hf := hk2
        have hf := uc2_e hf
        exact J55 m_lineLength_2 m_line_2 H locs ls hf (hP.sub [4, 0, 5, 1, 2, 3] rfl) (hD.sub [4, 0, 5, 1, 2, 3] (by decide) rfl) hS (lv_sub hl [] rfl)
      · have hf := itf h9 hf
        refine lv_aload_n hx hb dX10_printChildren_10 rfl (lv_at hl 0 rfl) ?_
        refine lv_iload_n hx hb dX10_printChildren_11 rfl (lv_at hl 2 rfl) ?_
        obtain ⟨r12, h9, hf⟩ := ob_s hf
        refine gcV (index := 184) S hE (c_X10_middleColumn ad a_m_fam m_undoCount m_thrown m_hasSnapshot m_rows m_lineLength_2 m_formattedLength m_bufferLength m_limit m_next m_beginsAt m_token m_error m_errorAt m_errorPosition m_nested m_codeCount m_column m_fam m_generation m_level v2_2 r12 h9) mX10_middleColumn tw1621 ⟨Nat.le_of_ble_eq_true rfl, Nat.le_of_ble_eq_true rfl⟩ hP hD hS hA ⟨Nat.zero_le _, Nat.zero_le _⟩ 4 10 rfl rfl rfl (wr := [((ad 17), .inl (cI, 800, .inl m_line_2))]) [4, 0, 5, 1, 2] [3] rfl rfl rfl rfl (by decide) (As := [.int v2_2]) (rest := []) rfl hl.1 rfl (Nat.le_of_ble_eq_true rfl) dX10_printChildren_12 (fun H locs hP hD hS => ?_)
        refine W.eq (g2 := F0 m 15 ls [.int r12]) rfl ?_
        have hP : va_P (dC, dI) vwCl [((ad 17), .inl (cI, 800, .inl m_line_2)), (ad 0, .inr (10, oM ad m_undoCount m_thrown m_hasSnapshot a_m_fam m_rows m_lineLength_2 m_formattedLength m_bufferLength m_limit m_next m_beginsAt m_token m_error m_errorAt m_errorPosition m_nested m_codeCount)), ((ad 16), .inl (cI, 28, .inl m_column)), (a_m_fam, .inl (cJ, 130, .inr (.inl m_fam))), ((ad 9), .inl (cI, 16, .inl m_generation)), ((ad 10), .inl (cI, 12, .inl m_level))] H := hP
        have hD : va_D A [((ad 17), .inl (cI, 800, .inl m_line_2)), (ad 0, .inr (10, oM ad m_undoCount m_thrown m_hasSnapshot a_m_fam m_rows m_lineLength_2 m_formattedLength m_bufferLength m_limit m_next m_beginsAt m_token m_error m_errorAt m_errorPosition m_nested m_codeCount)), ((ad 16), .inl (cI, 28, .inl m_column)), (a_m_fam, .inl (cJ, 130, .inr (.inl m_fam))), ((ad 9), .inl (cI, 16, .inl m_generation)), ((ad 10), .inl (cI, 12, .inl m_level))] := hD
        refine lv_istore_n (lv' := [(3, .int r12), (0, .ref (ad 0)), (1, .int v1), (2, .int v2_2)]) hx hb dX10_printChildren_15 rfl hl (by decide) rfl (fun ls hl => ?_)
        refine lv_aload_n hx hb dX10_printChildren_16 rfl (lv_at hl 1 rfl) ?_
        refine lv_iload_n hx hb dX10_printChildren_17 rfl (lv_at hl 3 rfl) ?_
        refine lv_iload_n hx hb dX10_printChildren_18 rfl (lv_at hl 2 rfl) ?_
        obtain ⟨r19, h9, hf⟩ := ob_s hf
        refine gcV (index := 166) S hE (c_X10_isChildAt ad a_m_fam m_undoCount m_thrown m_hasSnapshot m_rows m_lineLength_2 m_formattedLength m_bufferLength m_limit m_next m_beginsAt m_token m_error m_errorAt m_errorPosition m_nested m_codeCount m_fam m_level v2_2 v1 r19 h9) mX10_isChildAt tw1757 ⟨Nat.le_of_ble_eq_true rfl, Nat.le_of_ble_eq_true rfl⟩ hP hD hS hA ⟨Nat.zero_le _, Nat.zero_le _⟩ 1 10 rfl rfl rfl (wr := [((ad 17), .inl (cI, 800, .inl m_line_2)), ((ad 16), .inl (cI, 28, .inl m_column)), ((ad 9), .inl (cI, 16, .inl m_generation))]) [1, 3, 5] [0, 2, 4] rfl rfl rfl rfl (by decide) (As := [.int v2_2, .int v1]) (rest := []) rfl hl.1 rfl (Nat.le_of_ble_eq_true rfl) dX10_printChildren_19 (fun H locs hP hD hS => ?_)
        refine W.eq (g2 := F0 m 22 ls [.int (bI r19)]) rfl ?_
        have hP : va_P (dC, dI) vwCl [((ad 17), .inl (cI, 800, .inl m_line_2)), ((ad 16), .inl (cI, 28, .inl m_column)), ((ad 9), .inl (cI, 16, .inl m_generation)), (ad 0, .inr (10, oM ad m_undoCount m_thrown m_hasSnapshot a_m_fam m_rows m_lineLength_2 m_formattedLength m_bufferLength m_limit m_next m_beginsAt m_token m_error m_errorAt m_errorPosition m_nested m_codeCount)), (a_m_fam, .inl (cJ, 130, .inr (.inl m_fam))), ((ad 10), .inl (cI, 12, .inl m_level))] H := hP
        have hD : va_D A [((ad 17), .inl (cI, 800, .inl m_line_2)), ((ad 16), .inl (cI, 28, .inl m_column)), ((ad 9), .inl (cI, 16, .inl m_generation)), (ad 0, .inr (10, oM ad m_undoCount m_thrown m_hasSnapshot a_m_fam m_rows m_lineLength_2 m_formattedLength m_bufferLength m_limit m_next m_beginsAt m_token m_error m_errorAt m_errorPosition m_nested m_codeCount)), (a_m_fam, .inl (cJ, 130, .inr (.inl m_fam))), ((ad 10), .inl (cI, 12, .inl m_level))] := hD
        refine lv_if_eq (tgt := 49) hx hb dX10_printChildren_22 (by decide) (fun h9 => ?_) (fun h9 => ?_)
        · have hf := ctf (bI_0 h9) hf
          obtain ⟨t49, h9⟩ : ∃ z : Int32, z = (v2_2 + (1 : Int32)) := ⟨_, rfl⟩
          have hf := lb_e h9 hf
          refine lv_iinc (v := t49) (lv' := [(2, .int t49), (3, .int r12), (0, .ref (ad 0)), (1, .int v1)]) hx hb dX10_printChildren_49 hl (k := 3) rfl (by rw [h9]; rfl) (by decide) rfl (fun ls hl => ?_)
          refine lv_goto (tgt := 2) hx hb dX10_printChildren_52 (by decide) ?_
          exact ih2 t49 m_line_2 m_lineLength_2 ex2 H locs ls hf hk2 (hP.sub [3, 1, 4, 2, 5, 0] rfl) (hD.sub [3, 1, 4, 2, 5, 0] (by decide) rfl) hS (lv_sub hl [2, 3, 0] rfl)
        · have hf := ctt (bI_1 h9) hf
          refine lv_aload_n hx hb dX10_printChildren_25 rfl (lv_at hl 1 rfl) ?_
          refine va_get (D := (dC, dI)) (ci := 10) (v := .ref (ad 17)) (C := RX10) (T := TX10) (N := 37) hx hb htg inX10 hown hE.1 hP 3 rfl rfl 16 (by decide) (htg _ tw1398) (fun _ h9 => h9) rfl dX10_printChildren_26 ?_
          refine lv_iload_n hx hb dX10_printChildren_29 rfl (lv_at hl 0 rfl) ?_
          obtain ⟨h9, hf⟩ := gd_s hf
          refine va_iald hx hb hE.1 hP 0 0 rfl rfl h9 dX10_printChildren_30 ?_
          refine lv_bipush (v := 32) hx hb dX10_printChildren_31 (by decide) ?_
          refine lv_icmp_ne (tgt := 49) hx hb dX10_printChildren_33 (by decide) (fun h9 => ?_) (fun h9 => ?_)
          · have hf := itf h9 hf
            obtain ⟨t49, h9⟩ : ∃ z : Int32, z = (v2_2 + (1 : Int32)) := ⟨_, rfl⟩
            have hf := lb_e h9 hf
            refine lv_iinc (v := t49) (lv' := [(2, .int t49), (3, .int r12), (0, .ref (ad 0)), (1, .int v1)]) hx hb dX10_printChildren_49 hl (k := 3) rfl (by rw [h9]; rfl) (by decide) rfl (fun ls hl => ?_)
            refine lv_goto (tgt := 2) hx hb dX10_printChildren_52 (by decide) ?_
            exact ih2 t49 m_line_2 m_lineLength_2 ex2 H locs ls hf hk2 (hP.sub [3, 1, 4, 2, 5, 0] rfl) (hD.sub [3, 1, 4, 2, 5, 0] (by decide) rfl) hS (lv_sub hl [2, 3, 0] rfl)
          · have hf := itt h9 hf
            refine lv_aload_n hx hb dX10_printChildren_36 rfl (lv_at hl 1 rfl) ?_
            refine lv_iload_n hx hb dX10_printChildren_37 rfl (lv_at hl 0 rfl) ?_
            refine lv_bipush (v := 97) hx hb dX10_printChildren_38 (by decide) ?_
            refine lv_aload_n hx hb dX10_printChildren_40 rfl (lv_at hl 1 rfl) ?_
            refine lv_iload_n hx hb dX10_printChildren_41 rfl (lv_at hl 3 rfl) ?_
            obtain ⟨r42, h9, hf⟩ := ob_s hf
            refine gcV (index := 117) S hE (c_X10_parentsOf ad a_m_fam m_undoCount m_thrown m_hasSnapshot m_rows m_lineLength_2 m_formattedLength m_bufferLength m_limit m_next m_beginsAt m_token m_error m_errorAt m_errorPosition m_nested m_codeCount m_fam v2_2 r42 h9) mX10_parentsOf tw1515 ⟨Nat.le_of_ble_eq_true rfl, Nat.le_of_ble_eq_true rfl⟩ hP hD hS hA ⟨Nat.zero_le _, Nat.zero_le _⟩ 3 10 rfl rfl rfl (wr := [((ad 17), .inl (cI, 800, .inl m_line_2)), ((ad 16), .inl (cI, 28, .inl m_column)), ((ad 9), .inl (cI, 16, .inl m_generation)), ((ad 10), .inl (cI, 12, .inl m_level))]) [3, 4] [0, 1, 2, 5] rfl rfl rfl rfl (by decide) (As := [.int v2_2]) (rest := [.int (97 : Int32), .int r12, .ref (ad 0)]) rfl hl.1 rfl (Nat.le_of_ble_eq_true rfl) dX10_printChildren_42 (fun H locs hP hD hS => ?_)
            refine W.eq (g2 := F0 m 45 ls [.int r42, .int (97 : Int32), .int r12, .ref (ad 0)]) rfl ?_
            have hP : va_P (dC, dI) vwCl [((ad 17), .inl (cI, 800, .inl m_line_2)), ((ad 16), .inl (cI, 28, .inl m_column)), ((ad 9), .inl (cI, 16, .inl m_generation)), ((ad 10), .inl (cI, 12, .inl m_level)), (ad 0, .inr (10, oM ad m_undoCount m_thrown m_hasSnapshot a_m_fam m_rows m_lineLength_2 m_formattedLength m_bufferLength m_limit m_next m_beginsAt m_token m_error m_errorAt m_errorPosition m_nested m_codeCount)), (a_m_fam, .inl (cJ, 130, .inr (.inl m_fam)))] H := hP
            have hD : va_D A [((ad 17), .inl (cI, 800, .inl m_line_2)), ((ad 16), .inl (cI, 28, .inl m_column)), ((ad 9), .inl (cI, 16, .inl m_generation)), ((ad 10), .inl (cI, 12, .inl m_level)), (ad 0, .inr (10, oM ad m_undoCount m_thrown m_hasSnapshot a_m_fam m_rows m_lineLength_2 m_formattedLength m_bufferLength m_limit m_next m_beginsAt m_token m_error m_errorAt m_errorPosition m_nested m_codeCount)), (a_m_fam, .inl (cJ, 130, .inr (.inl m_fam)))] := hD
            refine lv_iadd hx hb dX10_printChildren_45 ?_
            obtain ⟨⟨m_line_46, m_lineLength_46⟩, h9, hf⟩ := ob_s hf
            have hf := uc2_e hf
            refine gcV (index := 199) S hE (c_X10_mark ad a_m_fam m_undoCount m_thrown m_hasSnapshot m_rows m_lineLength_2 m_formattedLength m_bufferLength m_limit m_next m_beginsAt m_token m_error m_errorAt m_errorPosition m_nested m_codeCount m_line_2 r12 ((97 : Int32) + r42) m_line_46 m_lineLength_46 h9) mX10_mark tw1789 ⟨Nat.le_of_ble_eq_true rfl, Nat.le_of_ble_eq_true rfl⟩ hP hD hS hA ⟨Nat.zero_le _, Nat.zero_le _⟩ 4 10 rfl rfl rfl (wr := [((ad 16), .inl (cI, 28, .inl m_column)), ((ad 9), .inl (cI, 16, .inl m_generation)), ((ad 10), .inl (cI, 12, .inl m_level)), (a_m_fam, .inl (cJ, 130, .inr (.inl m_fam)))]) [4, 0] [1, 2, 3, 5] rfl rfl rfl rfl (by decide) (As := [.int r12, .int ((97 : Int32) + r42)]) (rest := []) rfl hl.1 rfl (Nat.le_of_ble_eq_true rfl) dX10_printChildren_46 (fun H locs hP hD hS => ?_)
            refine W.eq (g2 := F0 m 49 ls []) rfl ?_
            have hP : va_P (dC, dI) vwCl [((ad 16), .inl (cI, 28, .inl m_column)), ((ad 9), .inl (cI, 16, .inl m_generation)), ((ad 10), .inl (cI, 12, .inl m_level)), (a_m_fam, .inl (cJ, 130, .inr (.inl m_fam))), (ad 0, .inr (10, oM ad m_undoCount m_thrown m_hasSnapshot a_m_fam m_rows m_lineLength_46 m_formattedLength m_bufferLength m_limit m_next m_beginsAt m_token m_error m_errorAt m_errorPosition m_nested m_codeCount)), ((ad 17), .inl (cI, 800, .inl m_line_46))] H := hP
            have hD : va_D A [((ad 16), .inl (cI, 28, .inl m_column)), ((ad 9), .inl (cI, 16, .inl m_generation)), ((ad 10), .inl (cI, 12, .inl m_level)), (a_m_fam, .inl (cJ, 130, .inr (.inl m_fam))), (ad 0, .inr (10, oM ad m_undoCount m_thrown m_hasSnapshot a_m_fam m_rows m_lineLength_46 m_formattedLength m_bufferLength m_limit m_next m_beginsAt m_token m_error m_errorAt m_errorPosition m_nested m_codeCount)), ((ad 17), .inl (cI, 800, .inl m_line_46))] := hD
            obtain ⟨t49, h9⟩ : ∃ z : Int32, z = (v2_2 + (1 : Int32)) := ⟨_, rfl⟩
            have hf := lb_e h9 hf
            refine lv_iinc (v := t49) (lv' := [(2, .int t49), (3, .int r12), (0, .ref (ad 0)), (1, .int v1)]) hx hb dX10_printChildren_49 hl (k := 3) rfl (by rw [h9]; rfl) (by decide) rfl (fun ls hl => ?_)
            refine lv_goto (tgt := 2) hx hb dX10_printChildren_52 (by decide) ?_
            exact ih2 t49 m_line_46 m_lineLength_46 ex2 H locs ls hf hk2 (hP.sub [4, 0, 3, 1, 2, 5] rfl) (hD.sub [4, 0, 3, 1, 2, 5] (by decide) rfl) hS (lv_sub hl [2, 3, 0] rfl)
  obtain ⟨ex, h9, hf⟩ := ob_s hf
  exact K2 FU (0 : Int32) m_line m_lineLength ex H locs ls h9 hf hP hD hS (lv_sub hl [1, 2, 0] rfl)
set_option maxHeartbeats 4000000 in
set_option maxRecDepth 100000 in
theorem c_X10_layLine (ad : Nat → Nat) (a_m_fam : Nat) (m_undoCount : Int32) (m_thrown : Int32) (m_hasSnapshot : Bool) (m_rows : Int32) (m_lineLength : Int32) (m_formattedLength : Int32) (m_bufferLength : Int32) (m_limit : Int32) (m_next : Int32) (m_beginsAt : Int32) (m_token : Int32) (m_error : Int32) (m_errorAt : Int32) (m_errorPosition : Int32) (m_nested : Int32) (m_codeCount : Int32) (m_boxAt : Nat → Int32) (m_column : Nat → Int32) (m_fam : Nat → Int64) (m_generation : Nat → Int32) (m_level : Nat → Int32) (m_line : Nat → Int32) (m_rowSize : Nat → Int32) (v1 : Int32) (m_line_9 : Nat → Int32) (m_lineLength_9 : Int32) (hf : p10_layLine m_boxAt m_column m_fam m_generation m_level m_line m_rowSize v1 = some (m_line_9, m_lineLength_9)) : gM l dC dI cI cJ cZ yX10_layLine cX10_layLine 4 none (7) (152) [.ref (ad 0), .int v1] [(ad 0, .inr (10, oM ad m_undoCount m_thrown m_hasSnapshot a_m_fam m_rows m_lineLength m_formattedLength m_bufferLength m_limit m_next m_beginsAt m_token m_error m_errorAt m_errorPosition m_nested m_codeCount)), ((ad 14), .inl (cI, 448, .inl m_boxAt)), ((ad 16), .inl (cI, 28, .inl m_column)), (a_m_fam, .inl (cJ, 130, .inr (.inl m_fam))), ((ad 9), .inl (cI, 16, .inl m_generation)), ((ad 10), .inl (cI, 12, .inl m_level)), ((ad 17), .inl (cI, 800, .inl m_line)), ((ad 11), .inl (cI, 16, .inl m_rowSize))] [(ad 0, .inr (10, oM ad m_undoCount m_thrown m_hasSnapshot a_m_fam m_rows m_lineLength_9 m_formattedLength m_bufferLength m_limit m_next m_beginsAt m_token m_error m_errorAt m_errorPosition m_nested m_codeCount)), ((ad 14), .inl (cI, 448, .inl m_boxAt)), ((ad 16), .inl (cI, 28, .inl m_column)), (a_m_fam, .inl (cJ, 130, .inr (.inl m_fam))), ((ad 9), .inl (cI, 16, .inl m_generation)), ((ad 10), .inl (cI, 12, .inl m_level)), ((ad 17), .inl (cI, 800, .inl m_line_9)), ((ad 11), .inl (cI, 16, .inl m_rowSize))] none := by
  refine g_start (own := RX10) (by decide +kernel) rfl (Nat.le_of_ble_eq_true rfl) ?_
  intro p e s m below meth c A ls S hr hlocks hE hP hD hS hA hl hin
  have hx := S.1
  have hb := S.2.1
  have hml := S.2.2.1
  have hown := S.2.2.2.1
  have htg : ∀ z ∈ gw, z.before ([.ref (ad 0), .int v1] : List Value).toArray s = true := fun w h => S.2.2.2.2 w (List.mem_cons_of_mem _ h)
  have hl : lv_has ls 4 [(0, .ref (ad 0)), (1, .int v1)] := hl
  have hS0 := hS
  obtain ⟨H, hH⟩ : ∃ H, H = s.heap := ⟨_, rfl⟩
  obtain ⟨locs, hlc⟩ : ∃ locs : List Loc, locs = [] := ⟨_, rfl⟩
  have hS : va_S A s.heap H locs := by rw [hH, hlc]; exact hS0
  have hP : va_P (dC, dI) vwCl [(ad 0, .inr (10, oM ad m_undoCount m_thrown m_hasSnapshot a_m_fam m_rows m_lineLength m_formattedLength m_bufferLength m_limit m_next m_beginsAt m_token m_error m_errorAt m_errorPosition m_nested m_codeCount)), ((ad 14), .inl (cI, 448, .inl m_boxAt)), ((ad 16), .inl (cI, 28, .inl m_column)), (a_m_fam, .inl (cJ, 130, .inr (.inl m_fam))), ((ad 9), .inl (cI, 16, .inl m_generation)), ((ad 10), .inl (cI, 12, .inl m_level)), ((ad 17), .inl (cI, 800, .inl m_line)), ((ad 11), .inl (cI, 16, .inl m_rowSize))] H := by rw [hH]; exact hP
  suffices hgo : W p l e ({ frames := 7, cells := 0, slots := 0, locals := 152 }) s m ([.ref (ad 0), .int v1] : List Value).toArray below meth c H locs 0 0 (MQ below (gQ dC dI none A [(ad 0, .inr (10, oM ad m_undoCount m_thrown m_hasSnapshot a_m_fam m_rows m_lineLength_9 m_formattedLength m_bufferLength m_limit m_next m_beginsAt m_token m_error m_errorAt m_errorPosition m_nested m_codeCount)), ((ad 14), .inl (cI, 448, .inl m_boxAt)), ((ad 16), .inl (cI, 28, .inl m_column)), (a_m_fam, .inl (cJ, 130, .inr (.inl m_fam))), ((ad 9), .inl (cI, 16, .inl m_generation)), ((ad 10), .inl (cI, 12, .inl m_level)), ((ad 17), .inl (cI, 800, .inl m_line_9)), ((ad 11), .inl (cI, 16, .inl m_rowSize))]) ([.ref (ad 0), .int v1] : List Value).toArray s 0 0 A) (F0 m 0 ls []) by rw [hH, hlc] at hgo; exact hgo
  rw [p10_layLine] at hf
  have J90 : ∀ (m_lineLength_90 : Int32) (m_line_90 : Nat → Int32) (H : Heap) (locs : List Loc) (ls : Array Slot), p10_layLine_J90 m_lineLength_90 m_line_90 = some (m_line_9, m_lineLength_9) → va_P (dC, dI) vwCl [(ad 0, .inr (10, oM ad m_undoCount m_thrown m_hasSnapshot a_m_fam m_rows m_lineLength_90 m_formattedLength m_bufferLength m_limit m_next m_beginsAt m_token m_error m_errorAt m_errorPosition m_nested m_codeCount)), ((ad 14), .inl (cI, 448, .inl m_boxAt)), ((ad 16), .inl (cI, 28, .inl m_column)), (a_m_fam, .inl (cJ, 130, .inr (.inl m_fam))), ((ad 9), .inl (cI, 16, .inl m_generation)), ((ad 10), .inl (cI, 12, .inl m_level)), ((ad 17), .inl (cI, 800, .inl m_line_90)), ((ad 11), .inl (cI, 16, .inl m_rowSize))] H → va_D A [(ad 0, .inr (10, oM ad m_undoCount m_thrown m_hasSnapshot a_m_fam m_rows m_lineLength_90 m_formattedLength m_bufferLength m_limit m_next m_beginsAt m_token m_error m_errorAt m_errorPosition m_nested m_codeCount)), ((ad 14), .inl (cI, 448, .inl m_boxAt)), ((ad 16), .inl (cI, 28, .inl m_column)), (a_m_fam, .inl (cJ, 130, .inr (.inl m_fam))), ((ad 9), .inl (cI, 16, .inl m_generation)), ((ad 10), .inl (cI, 12, .inl m_level)), ((ad 17), .inl (cI, 800, .inl m_line_90)), ((ad 11), .inl (cI, 16, .inl m_rowSize))] → va_S A s.heap H locs → lv_has ls 4 [] → W p l e ({ frames := 7, cells := 0, slots := 0, locals := 152 }) s m ([.ref (ad 0), .int v1] : List Value).toArray below meth c H locs 0 0 (MQ below (gQ dC dI none A [(ad 0, .inr (10, oM ad m_undoCount m_thrown m_hasSnapshot a_m_fam m_rows m_lineLength_9 m_formattedLength m_bufferLength m_limit m_next m_beginsAt m_token m_error m_errorAt m_errorPosition m_nested m_codeCount)), ((ad 14), .inl (cI, 448, .inl m_boxAt)), ((ad 16), .inl (cI, 28, .inl m_column)), (a_m_fam, .inl (cJ, 130, .inr (.inl m_fam))), ((ad 9), .inl (cI, 16, .inl m_generation)), ((ad 10), .inl (cI, 12, .inl m_level)), ((ad 17), .inl (cI, 800, .inl m_line_9)), ((ad 11), .inl (cI, 16, .inl m_rowSize))]) ([.ref (ad 0), .int v1] : List Value).toArray s 0 0 A) (F0 m 90 ls []) := by
    intro m_lineLength_90 m_line_90 H locs ls hf hP hD hS hl
    rw [p10_layLine_J90] at hf
    cases hf
    exact g_vret S hr hlocks hP hD hS dX10_layLine_90
  have J23 : ∀ (m_line_23 : Nat → Int32) (H : Heap) (locs : List Loc) (ls : Array Slot), p10_layLine_J23 m_boxAt m_column m_fam m_generation m_level m_rowSize v1 m_line_23 = some (m_line_9, m_lineLength_9) → va_P (dC, dI) vwCl [(ad 0, .inr (10, oM ad m_undoCount m_thrown m_hasSnapshot a_m_fam m_rows m_lineLength m_formattedLength m_bufferLength m_limit m_next m_beginsAt m_token m_error m_errorAt m_errorPosition m_nested m_codeCount)), ((ad 14), .inl (cI, 448, .inl m_boxAt)), ((ad 16), .inl (cI, 28, .inl m_column)), (a_m_fam, .inl (cJ, 130, .inr (.inl m_fam))), ((ad 9), .inl (cI, 16, .inl m_generation)), ((ad 10), .inl (cI, 12, .inl m_level)), ((ad 17), .inl (cI, 800, .inl m_line_23)), ((ad 11), .inl (cI, 16, .inl m_rowSize))] H → va_D A [(ad 0, .inr (10, oM ad m_undoCount m_thrown m_hasSnapshot a_m_fam m_rows m_lineLength m_formattedLength m_bufferLength m_limit m_next m_beginsAt m_token m_error m_errorAt m_errorPosition m_nested m_codeCount)), ((ad 14), .inl (cI, 448, .inl m_boxAt)), ((ad 16), .inl (cI, 28, .inl m_column)), (a_m_fam, .inl (cJ, 130, .inr (.inl m_fam))), ((ad 9), .inl (cI, 16, .inl m_generation)), ((ad 10), .inl (cI, 12, .inl m_level)), ((ad 17), .inl (cI, 800, .inl m_line_23)), ((ad 11), .inl (cI, 16, .inl m_rowSize))] → va_S A s.heap H locs → lv_has ls 4 [(0, .ref (ad 0)), (1, .int v1)] → W p l e ({ frames := 7, cells := 0, slots := 0, locals := 152 }) s m ([.ref (ad 0), .int v1] : List Value).toArray below meth c H locs 0 0 (MQ below (gQ dC dI none A [(ad 0, .inr (10, oM ad m_undoCount m_thrown m_hasSnapshot a_m_fam m_rows m_lineLength_9 m_formattedLength m_bufferLength m_limit m_next m_beginsAt m_token m_error m_errorAt m_errorPosition m_nested m_codeCount)), ((ad 14), .inl (cI, 448, .inl m_boxAt)), ((ad 16), .inl (cI, 28, .inl m_column)), (a_m_fam, .inl (cJ, 130, .inr (.inl m_fam))), ((ad 9), .inl (cI, 16, .inl m_generation)), ((ad 10), .inl (cI, 12, .inl m_level)), ((ad 17), .inl (cI, 800, .inl m_line_9)), ((ad 11), .inl (cI, 16, .inl m_rowSize))]) ([.ref (ad 0), .int v1] : List Value).toArray s 0 0 A) (F0 m 23 ls []) := by
    intro m_line_23 H locs ls hf hP hD hS hl
    rw [p10_layLine_J23] at hf
    refine lv_aload_n hx hb dX10_layLine_23 rfl (lv_at hl 0 rfl) ?_
    refine lv_iconst (v := 0) hx hb dX10_layLine_24 (by decide) ?_
    refine va_put (D := (dC, dI)) (ci := 10) (v := .int (0 : Int32)) (ty := .int) (C := RX10) (T := TX10) (N := 37) hx hb htg inX10 tyX10 tyX10_ok nmX10 hown hE.1 hP hD hS 0 rfl rfl 17 (by decide) (htg _ tw1399) (fun _ h9 => h9) rfl (by decide +kernel) rfl rfl (Nat.le_of_ble_eq_true rfl) dX10_layLine_25 (fun H locs hP hD hS => ?_)
    have hP : va_P (dC, dI) vwCl [(ad 0, .inr (10, oM ad m_undoCount m_thrown m_hasSnapshot a_m_fam m_rows (0 : Int32) m_formattedLength m_bufferLength m_limit m_next m_beginsAt m_token m_error m_errorAt m_errorPosition m_nested m_codeCount)), ((ad 14), .inl (cI, 448, .inl m_boxAt)), ((ad 16), .inl (cI, 28, .inl m_column)), (a_m_fam, .inl (cJ, 130, .inr (.inl m_fam))), ((ad 9), .inl (cI, 16, .inl m_generation)), ((ad 10), .inl (cI, 12, .inl m_level)), ((ad 17), .inl (cI, 800, .inl m_line_23)), ((ad 11), .inl (cI, 16, .inl m_rowSize))] H := hP
    have hD : va_D A [(ad 0, .inr (10, oM ad m_undoCount m_thrown m_hasSnapshot a_m_fam m_rows (0 : Int32) m_formattedLength m_bufferLength m_limit m_next m_beginsAt m_token m_error m_errorAt m_errorPosition m_nested m_codeCount)), ((ad 14), .inl (cI, 448, .inl m_boxAt)), ((ad 16), .inl (cI, 28, .inl m_column)), (a_m_fam, .inl (cJ, 130, .inr (.inl m_fam))), ((ad 9), .inl (cI, 16, .inl m_generation)), ((ad 10), .inl (cI, 12, .inl m_level)), ((ad 17), .inl (cI, 800, .inl m_line_23)), ((ad 11), .inl (cI, 16, .inl m_rowSize))] := hD
    refine lv_iload_n hx hb dX10_layLine_28 rfl (lv_at hl 1 rfl) ?_
    refine lv_iconst (v := 3) hx hb dX10_layLine_29 (by decide) ?_
    refine lv_idiv hx hb dX10_layLine_30 (by decide) ?_
    refine lv_topi (fun t31 h9 => ?_)
    have hf := lb_e h9 hf
    refine lv_istore_n (lv' := [(2, .int t31), (0, .ref (ad 0)), (1, .int v1)]) hx hb dX10_layLine_31 rfl hl (by decide) rfl (fun ls hl => ?_)
    refine lv_iload_n hx hb dX10_layLine_32 rfl (lv_at hl 2 rfl) ?_
    refine lv_iconst (v := 3) hx hb dX10_layLine_33 (by decide) ?_
    refine lv_irem hx hb dX10_layLine_34 (by decide) ?_
    refine lv_iconst (v := 1) hx hb dX10_layLine_35 (by decide) ?_
    refine lv_icmp_ne (tgt := 47) hx hb dX10_layLine_36 (by decide) (fun h9 => ?_) (fun h9 => ?_)
    · have hf := itf h9 hf
      refine lv_iload_n hx hb dX10_layLine_47 rfl (lv_at hl 2 rfl) ?_
      refine lv_iconst (v := 3) hx hb dX10_layLine_48 (by decide) ?_
      refine lv_irem hx hb dX10_layLine_49 (by decide) ?_
      refine lv_iconst (v := 2) hx hb dX10_layLine_50 (by decide) ?_
      refine lv_icmp_ne (tgt := 62) hx hb dX10_layLine_51 (by decide) (fun h9 => ?_) (fun h9 => ?_)
      · have hf := itf h9 hf
        refine lv_iconst (v := 0) hx hb dX10_layLine_62 (by decide) ?_
        refine lv_istore_n (lv' := [(3, .int (0 : Int32)), (2, .int t31), (0, .ref (ad 0)), (1, .int v1)]) hx hb dX10_layLine_63 rfl hl (by decide) rfl (fun ls hl => ?_)
        have K64 : ∀ (n64 : Nat) (v3_64 : Int32) (m_line_64 : Nat → Int32) (m_lineLength_64 : Int32) (ex64 : (Nat → Int32) × Int32) (H : Heap) (locs : List Loc) (ls : Array Slot), p10_layLine_L64 m_boxAt m_column m_fam m_generation m_level m_rowSize t31 n64 v3_64 m_line_64 m_lineLength_64 = some ex64 → (uc2 fun m_line_x64 m_lineLength_x64 => p10_layLine_J90 m_lineLength_x64 m_line_x64) ex64 = some (m_line_9, m_lineLength_9) → va_P (dC, dI) vwCl [(ad 0, .inr (10, oM ad m_undoCount m_thrown m_hasSnapshot a_m_fam m_rows m_lineLength_64 m_formattedLength m_bufferLength m_limit m_next m_beginsAt m_token m_error m_errorAt m_errorPosition m_nested m_codeCount)), ((ad 14), .inl (cI, 448, .inl m_boxAt)), ((ad 16), .inl (cI, 28, .inl m_column)), (a_m_fam, .inl (cJ, 130, .inr (.inl m_fam))), ((ad 9), .inl (cI, 16, .inl m_generation)), ((ad 10), .inl (cI, 12, .inl m_level)), ((ad 17), .inl (cI, 800, .inl m_line_64)), ((ad 11), .inl (cI, 16, .inl m_rowSize))] H → va_D A [(ad 0, .inr (10, oM ad m_undoCount m_thrown m_hasSnapshot a_m_fam m_rows m_lineLength_64 m_formattedLength m_bufferLength m_limit m_next m_beginsAt m_token m_error m_errorAt m_errorPosition m_nested m_codeCount)), ((ad 14), .inl (cI, 448, .inl m_boxAt)), ((ad 16), .inl (cI, 28, .inl m_column)), (a_m_fam, .inl (cJ, 130, .inr (.inl m_fam))), ((ad 9), .inl (cI, 16, .inl m_generation)), ((ad 10), .inl (cI, 12, .inl m_level)), ((ad 17), .inl (cI, 800, .inl m_line_64)), ((ad 11), .inl (cI, 16, .inl m_rowSize))] → va_S A s.heap H locs → lv_has ls 4 [(0, .ref (ad 0)), (2, .int t31), (3, .int v3_64)] → W p l e ({ frames := 7, cells := 0, slots := 0, locals := 152 }) s m ([.ref (ad 0), .int v1] : List Value).toArray below meth c H locs 0 0 (MQ below (gQ dC dI none A [(ad 0, .inr (10, oM ad m_undoCount m_thrown m_hasSnapshot a_m_fam m_rows m_lineLength_9 m_formattedLength m_bufferLength m_limit m_next m_beginsAt m_token m_error m_errorAt m_errorPosition m_nested m_codeCount)), ((ad 14), .inl (cI, 448, .inl m_boxAt)), ((ad 16), .inl (cI, 28, .inl m_column)), (a_m_fam, .inl (cJ, 130, .inr (.inl m_fam))), ((ad 9), .inl (cI, 16, .inl m_generation)), ((ad 10), .inl (cI, 12, .inl m_level)), ((ad 17), .inl (cI, 800, .inl m_line_9)), ((ad 11), .inl (cI, 16, .inl m_rowSize))]) ([.ref (ad 0), .int v1] : List Value).toArray s 0 0 A) (F0 m 64 ls []) := by
          intro n64
          induction n64 with
          | zero => intro v3_64 m_line_64 m_lineLength_64 ex64 H locs ls hf; rw [p10_layLine_L64] at hf; cases hf
          | succ n64 ih64 =>
            intro v3_64 m_line_64 m_lineLength_64 ex64 H locs ls hf hk64 hP hD hS hl
            rw [p10_layLine_L64, p10_layLine_L64_B] at hf
            refine lv_iload_n hx hb dX10_layLine_64 rfl (lv_at hl 2 rfl) ?_
            refine lv_aload_n hx hb dX10_layLine_65 rfl (lv_at hl 0 rfl) ?_
            refine va_get (D := (dC, dI)) (ci := 10) (v := .ref (ad 11)) (C := RX10) (T := TX10) (N := 37) hx hb htg inX10 hown hE.1 hP 0 rfl rfl 10 (by decide) (htg _ tw1392) (fun _ h9 => h9) rfl dX10_layLine_66 ?_
            refine lv_iload_n hx hb dX10_layLine_69 rfl (lv_at hl 1 rfl) ?_
            obtain ⟨h9, hf⟩ := gd_s hf
            refine va_iald hx hb hE.1 hP 7 0 rfl rfl h9 dX10_layLine_70 ?_
            refine lv_icmp_ge (tgt := 90) hx hb dX10_layLine_71 (by decide) (fun h9 => ?_) (fun h9 => ?_)
            · have hf := itt h9 hf
              cases hf
              have hf := hk64
              have hf := uc2_e hf
              exact J90 m_lineLength_64 m_line_64 H locs ls hf hP hD hS (lv_sub hl [] rfl)
            · have hf := itf h9 hf
              refine lv_aload_n hx hb dX10_layLine_74 rfl (lv_at hl 0 rfl) ?_
              refine lv_aload_n hx hb dX10_layLine_75 rfl (lv_at hl 0 rfl) ?_
              refine lv_iload_n hx hb dX10_layLine_76 rfl (lv_at hl 1 rfl) ?_
              refine lv_iload_n hx hb dX10_layLine_77 rfl (lv_at hl 2 rfl) ?_
              obtain ⟨r78, h9, hf⟩ := ob_s hf
              refine gcV (index := 153) S hE (c_X10_boxIn ad a_m_fam m_undoCount m_thrown m_hasSnapshot m_rows m_lineLength_64 m_formattedLength m_bufferLength m_limit m_next m_beginsAt m_token m_error m_errorAt m_errorPosition m_nested m_codeCount m_boxAt t31 v3_64 r78 h9) mX10_boxIn tw1605 ⟨Nat.le_of_ble_eq_true rfl, Nat.le_of_ble_eq_true rfl⟩ hP hD hS hA ⟨Nat.zero_le _, Nat.zero_le _⟩ 0 10 rfl rfl rfl (wr := [((ad 16), .inl (cI, 28, .inl m_column)), (a_m_fam, .inl (cJ, 130, .inr (.inl m_fam))), ((ad 9), .inl (cI, 16, .inl m_generation)), ((ad 10), .inl (cI, 12, .inl m_level)), ((ad 17), .inl (cI, 800, .inl m_line_64)), ((ad 11), .inl (cI, 16, .inl m_rowSize))]) [0, 1] [2, 3, 4, 5, 6, 7] rfl rfl rfl rfl (by decide) (As := [.int t31, .int v3_64]) (rest := [.ref (ad 0)]) rfl hl.1 rfl (Nat.le_of_ble_eq_true rfl) dX10_layLine_78 (fun H locs hP hD hS => ?_)
              refine W.eq (g2 := F0 m 81 ls [.int r78, .ref (ad 0)]) rfl ?_
              have hP : va_P (dC, dI) vwCl [((ad 16), .inl (cI, 28, .inl m_column)), (a_m_fam, .inl (cJ, 130, .inr (.inl m_fam))), ((ad 9), .inl (cI, 16, .inl m_generation)), ((ad 10), .inl (cI, 12, .inl m_level)), ((ad 17), .inl (cI, 800, .inl m_line_64)), ((ad 11), .inl (cI, 16, .inl m_rowSize)), (ad 0, .inr (10, oM ad m_undoCount m_thrown m_hasSnapshot a_m_fam m_rows m_lineLength_64 m_formattedLength m_bufferLength m_limit m_next m_beginsAt m_token m_error m_errorAt m_errorPosition m_nested m_codeCount)), ((ad 14), .inl (cI, 448, .inl m_boxAt))] H := hP
              have hD : va_D A [((ad 16), .inl (cI, 28, .inl m_column)), (a_m_fam, .inl (cJ, 130, .inr (.inl m_fam))), ((ad 9), .inl (cI, 16, .inl m_generation)), ((ad 10), .inl (cI, 12, .inl m_level)), ((ad 17), .inl (cI, 800, .inl m_line_64)), ((ad 11), .inl (cI, 16, .inl m_rowSize)), (ad 0, .inr (10, oM ad m_undoCount m_thrown m_hasSnapshot a_m_fam m_rows m_lineLength_64 m_formattedLength m_bufferLength m_limit m_next m_beginsAt m_token m_error m_errorAt m_errorPosition m_nested m_codeCount)), ((ad 14), .inl (cI, 448, .inl m_boxAt))] := hD
              obtain ⟨⟨m_line_81, m_lineLength_81⟩, h9, hf⟩ := ob_s hf
              have hf := uc2_e hf
              refine gcV (index := 212) S hE (c_X10_printBox ad a_m_fam m_undoCount m_thrown m_hasSnapshot m_rows m_lineLength_64 m_formattedLength m_bufferLength m_limit m_next m_beginsAt m_token m_error m_errorAt m_errorPosition m_nested m_codeCount m_column m_fam m_generation m_level m_line_64 r78 m_line_81 m_lineLength_81 h9) mX10_printBox tw1797 ⟨Nat.le_of_ble_eq_true rfl, Nat.le_of_ble_eq_true rfl⟩ hP hD hS hA ⟨Nat.zero_le _, Nat.zero_le _⟩ 6 10 rfl rfl rfl (wr := [((ad 11), .inl (cI, 16, .inl m_rowSize)), ((ad 14), .inl (cI, 448, .inl m_boxAt))]) [6, 0, 1, 2, 3, 4] [5, 7] rfl rfl rfl rfl (by decide) (As := [.int r78]) (rest := []) rfl hl.1 rfl (Nat.le_of_ble_eq_true rfl) dX10_layLine_81 (fun H locs hP hD hS => ?_)
              refine W.eq (g2 := F0 m 84 ls []) rfl ?_
              have hP : va_P (dC, dI) vwCl [((ad 11), .inl (cI, 16, .inl m_rowSize)), ((ad 14), .inl (cI, 448, .inl m_boxAt)), (ad 0, .inr (10, oM ad m_undoCount m_thrown m_hasSnapshot a_m_fam m_rows m_lineLength_81 m_formattedLength m_bufferLength m_limit m_next m_beginsAt m_token m_error m_errorAt m_errorPosition m_nested m_codeCount)), ((ad 16), .inl (cI, 28, .inl m_column)), (a_m_fam, .inl (cJ, 130, .inr (.inl m_fam))), ((ad 9), .inl (cI, 16, .inl m_generation)), ((ad 10), .inl (cI, 12, .inl m_level)), ((ad 17), .inl (cI, 800, .inl m_line_81))] H := hP
              have hD : va_D A [((ad 11), .inl (cI, 16, .inl m_rowSize)), ((ad 14), .inl (cI, 448, .inl m_boxAt)), (ad 0, .inr (10, oM ad m_undoCount m_thrown m_hasSnapshot a_m_fam m_rows m_lineLength_81 m_formattedLength m_bufferLength m_limit m_next m_beginsAt m_token m_error m_errorAt m_errorPosition m_nested m_codeCount)), ((ad 16), .inl (cI, 28, .inl m_column)), (a_m_fam, .inl (cJ, 130, .inr (.inl m_fam))), ((ad 9), .inl (cI, 16, .inl m_generation)), ((ad 10), .inl (cI, 12, .inl m_level)), ((ad 17), .inl (cI, 800, .inl m_line_81))] := hD
              obtain ⟨t84, h9⟩ : ∃ z : Int32, z = (v3_64 + (1 : Int32)) := ⟨_, rfl⟩
              have hf := lb_e h9 hf
              refine lv_iinc (v := t84) (lv' := [(3, .int t84), (0, .ref (ad 0)), (2, .int t31)]) hx hb dX10_layLine_84 hl (k := 2) rfl (by rw [h9]; rfl) (by decide) rfl (fun ls hl => ?_)
              refine lv_goto (tgt := 64) hx hb dX10_layLine_87 (by decide) ?_
              exact ih64 t84 m_line_81 m_lineLength_81 ex64 H locs ls hf hk64 (hP.sub [2, 1, 3, 4, 5, 6, 7, 0] rfl) (hD.sub [2, 1, 3, 4, 5, 6, 7, 0] (by decide) rfl) hS (lv_sub hl [1, 2, 0] rfl)
        obtain ⟨ex, h9, hf⟩ := ob_s hf
        exact K64 FU (0 : Int32) m_line_23 (0 : Int32) ex H locs ls h9 hf hP hD hS (lv_sub hl [2, 1, 0] rfl)
      · have hf := itt h9 hf
        refine lv_aload_n hx hb dX10_layLine_54 rfl (lv_at hl 1 rfl) ?_
        refine lv_iload_n hx hb dX10_layLine_55 rfl (lv_at hl 0 rfl) ?_
        obtain ⟨⟨m_line_56, m_lineLength_56⟩, h9, hf⟩ := ob_s hf
        have hf := uc2_e hf
        refine gcV (index := 209) S hE (c_X10_printChildren ad a_m_fam m_undoCount m_thrown m_hasSnapshot m_rows (0 : Int32) m_formattedLength m_bufferLength m_limit m_next m_beginsAt m_token m_error m_errorAt m_errorPosition m_nested m_codeCount m_column m_fam m_generation m_level m_line_23 t31 m_line_56 m_lineLength_56 h9) mX10_printChildren tw1793 ⟨Nat.le_of_ble_eq_true rfl, Nat.le_of_ble_eq_true rfl⟩ hP hD hS hA ⟨Nat.zero_le _, Nat.zero_le _⟩ 0 10 rfl rfl rfl (wr := [((ad 14), .inl (cI, 448, .inl m_boxAt)), ((ad 11), .inl (cI, 16, .inl m_rowSize))]) [0, 2, 3, 4, 5, 6] [1, 7] rfl rfl rfl rfl (by decide) (As := [.int t31]) (rest := []) rfl hl.1 rfl (Nat.le_of_ble_eq_true rfl) dX10_layLine_56 (fun H locs hP hD hS => ?_)
        refine W.eq (g2 := F0 m 59 ls []) rfl ?_
        have hP : va_P (dC, dI) vwCl [((ad 14), .inl (cI, 448, .inl m_boxAt)), ((ad 11), .inl (cI, 16, .inl m_rowSize)), (ad 0, .inr (10, oM ad m_undoCount m_thrown m_hasSnapshot a_m_fam m_rows m_lineLength_56 m_formattedLength m_bufferLength m_limit m_next m_beginsAt m_token m_error m_errorAt m_errorPosition m_nested m_codeCount)), ((ad 16), .inl (cI, 28, .inl m_column)), (a_m_fam, .inl (cJ, 130, .inr (.inl m_fam))), ((ad 9), .inl (cI, 16, .inl m_generation)), ((ad 10), .inl (cI, 12, .inl m_level)), ((ad 17), .inl (cI, 800, .inl m_line_56))] H := hP
        have hD : va_D A [((ad 14), .inl (cI, 448, .inl m_boxAt)), ((ad 11), .inl (cI, 16, .inl m_rowSize)), (ad 0, .inr (10, oM ad m_undoCount m_thrown m_hasSnapshot a_m_fam m_rows m_lineLength_56 m_formattedLength m_bufferLength m_limit m_next m_beginsAt m_token m_error m_errorAt m_errorPosition m_nested m_codeCount)), ((ad 16), .inl (cI, 28, .inl m_column)), (a_m_fam, .inl (cJ, 130, .inr (.inl m_fam))), ((ad 9), .inl (cI, 16, .inl m_generation)), ((ad 10), .inl (cI, 12, .inl m_level)), ((ad 17), .inl (cI, 800, .inl m_line_56))] := hD
        refine lv_goto (tgt := 90) hx hb dX10_layLine_59 (by decide) ?_
        exact J90 m_lineLength_56 m_line_56 H locs ls hf (hP.sub [2, 0, 3, 4, 5, 6, 7, 1] rfl) (hD.sub [2, 0, 3, 4, 5, 6, 7, 1] (by decide) rfl) hS (lv_sub hl [] rfl)
    · have hf := itt h9 hf
      refine lv_aload_n hx hb dX10_layLine_39 rfl (lv_at hl 1 rfl) ?_
      refine lv_iload_n hx hb dX10_layLine_40 rfl (lv_at hl 0 rfl) ?_
      obtain ⟨⟨m_line_41, m_lineLength_41⟩, h9, hf⟩ := ob_s hf
      have hf := uc2_e hf
      refine gcV (index := 205) S hE (c_X10_printUnions ad a_m_fam m_undoCount m_thrown m_hasSnapshot m_rows (0 : Int32) m_formattedLength m_bufferLength m_limit m_next m_beginsAt m_token m_error m_errorAt m_errorPosition m_nested m_codeCount m_column m_fam m_generation m_level m_line_23 t31 m_line_41 m_lineLength_41 h9) mX10_printUnions tw1785 ⟨Nat.le_of_ble_eq_true rfl, Nat.le_of_ble_eq_true rfl⟩ hP hD hS hA ⟨Nat.zero_le _, Nat.zero_le _⟩ 0 10 rfl rfl rfl (wr := [((ad 14), .inl (cI, 448, .inl m_boxAt)), ((ad 11), .inl (cI, 16, .inl m_rowSize))]) [0, 2, 3, 4, 5, 6] [1, 7] rfl rfl rfl rfl (by decide) (As := [.int t31]) (rest := []) rfl hl.1 rfl (Nat.le_of_ble_eq_true rfl) dX10_layLine_41 (fun H locs hP hD hS => ?_)
      refine W.eq (g2 := F0 m 44 ls []) rfl ?_
      have hP : va_P (dC, dI) vwCl [((ad 14), .inl (cI, 448, .inl m_boxAt)), ((ad 11), .inl (cI, 16, .inl m_rowSize)), (ad 0, .inr (10, oM ad m_undoCount m_thrown m_hasSnapshot a_m_fam m_rows m_lineLength_41 m_formattedLength m_bufferLength m_limit m_next m_beginsAt m_token m_error m_errorAt m_errorPosition m_nested m_codeCount)), ((ad 16), .inl (cI, 28, .inl m_column)), (a_m_fam, .inl (cJ, 130, .inr (.inl m_fam))), ((ad 9), .inl (cI, 16, .inl m_generation)), ((ad 10), .inl (cI, 12, .inl m_level)), ((ad 17), .inl (cI, 800, .inl m_line_41))] H := hP
      have hD : va_D A [((ad 14), .inl (cI, 448, .inl m_boxAt)), ((ad 11), .inl (cI, 16, .inl m_rowSize)), (ad 0, .inr (10, oM ad m_undoCount m_thrown m_hasSnapshot a_m_fam m_rows m_lineLength_41 m_formattedLength m_bufferLength m_limit m_next m_beginsAt m_token m_error m_errorAt m_errorPosition m_nested m_codeCount)), ((ad 16), .inl (cI, 28, .inl m_column)), (a_m_fam, .inl (cJ, 130, .inr (.inl m_fam))), ((ad 9), .inl (cI, 16, .inl m_generation)), ((ad 10), .inl (cI, 12, .inl m_level)), ((ad 17), .inl (cI, 800, .inl m_line_41))] := hD
      refine lv_goto (tgt := 90) hx hb dX10_layLine_44 (by decide) ?_
      exact J90 m_lineLength_41 m_line_41 H locs ls hf (hP.sub [2, 0, 3, 4, 5, 6, 7, 1] rfl) (hD.sub [2, 0, 3, 4, 5, 6, 7, 1] (by decide) rfl) hS (lv_sub hl [] rfl)
  refine lv_iconst (v := 0) hx hb dX10_layLine_0 (by decide) ?_
  refine lv_istore_n (lv' := [(2, .int (0 : Int32)), (0, .ref (ad 0)), (1, .int v1)]) hx hb dX10_layLine_1 rfl hl (by decide) rfl (fun ls hl => ?_)
  have K2 : ∀ (n2 : Nat) (v2_2 : Int32) (m_line_2 : Nat → Int32) (ex2 : (Nat → Int32)) (H : Heap) (locs : List Loc) (ls : Array Slot), p10_layLine_L2 n2 v2_2 m_line_2 = some ex2 → (fun m_line_x2 => p10_layLine_J23 m_boxAt m_column m_fam m_generation m_level m_rowSize v1 m_line_x2) ex2 = some (m_line_9, m_lineLength_9) → va_P (dC, dI) vwCl [(ad 0, .inr (10, oM ad m_undoCount m_thrown m_hasSnapshot a_m_fam m_rows m_lineLength m_formattedLength m_bufferLength m_limit m_next m_beginsAt m_token m_error m_errorAt m_errorPosition m_nested m_codeCount)), ((ad 14), .inl (cI, 448, .inl m_boxAt)), ((ad 16), .inl (cI, 28, .inl m_column)), (a_m_fam, .inl (cJ, 130, .inr (.inl m_fam))), ((ad 9), .inl (cI, 16, .inl m_generation)), ((ad 10), .inl (cI, 12, .inl m_level)), ((ad 17), .inl (cI, 800, .inl m_line_2)), ((ad 11), .inl (cI, 16, .inl m_rowSize))] H → va_D A [(ad 0, .inr (10, oM ad m_undoCount m_thrown m_hasSnapshot a_m_fam m_rows m_lineLength m_formattedLength m_bufferLength m_limit m_next m_beginsAt m_token m_error m_errorAt m_errorPosition m_nested m_codeCount)), ((ad 14), .inl (cI, 448, .inl m_boxAt)), ((ad 16), .inl (cI, 28, .inl m_column)), (a_m_fam, .inl (cJ, 130, .inr (.inl m_fam))), ((ad 9), .inl (cI, 16, .inl m_generation)), ((ad 10), .inl (cI, 12, .inl m_level)), ((ad 17), .inl (cI, 800, .inl m_line_2)), ((ad 11), .inl (cI, 16, .inl m_rowSize))] → va_S A s.heap H locs → lv_has ls 4 [(0, .ref (ad 0)), (1, .int v1), (2, .int v2_2)] → W p l e ({ frames := 7, cells := 0, slots := 0, locals := 152 }) s m ([.ref (ad 0), .int v1] : List Value).toArray below meth c H locs 0 0 (MQ below (gQ dC dI none A [(ad 0, .inr (10, oM ad m_undoCount m_thrown m_hasSnapshot a_m_fam m_rows m_lineLength_9 m_formattedLength m_bufferLength m_limit m_next m_beginsAt m_token m_error m_errorAt m_errorPosition m_nested m_codeCount)), ((ad 14), .inl (cI, 448, .inl m_boxAt)), ((ad 16), .inl (cI, 28, .inl m_column)), (a_m_fam, .inl (cJ, 130, .inr (.inl m_fam))), ((ad 9), .inl (cI, 16, .inl m_generation)), ((ad 10), .inl (cI, 12, .inl m_level)), ((ad 17), .inl (cI, 800, .inl m_line_9)), ((ad 11), .inl (cI, 16, .inl m_rowSize))]) ([.ref (ad 0), .int v1] : List Value).toArray s 0 0 A) (F0 m 2 ls []) := by
    intro n2
    induction n2 with
    | zero => intro v2_2 m_line_2 ex2 H locs ls hf; rw [p10_layLine_L2] at hf; cases hf
    | succ n2 ih2 =>
      intro v2_2 m_line_2 ex2 H locs ls hf hk2 hP hD hS hl
      rw [p10_layLine_L2, p10_layLine_L2_B] at hf
      refine lv_iload_n hx hb dX10_layLine_2 rfl (lv_at hl 2 rfl) ?_
      refine lv_sipush (v := 800) hx hb dX10_layLine_3 (by decide) ?_
      refine lv_icmp_ge (tgt := 23) hx hb dX10_layLine_6 (by decide) (fun h9 => ?_) (fun h9 => ?_)
      · have hf := itt h9 hf
        cases hf
        have hf := hk2
        exact J23 m_line_2 H locs ls hf hP hD hS (lv_sub hl [0, 1] rfl)
      · have hf := itf h9 hf
        refine lv_aload_n hx hb dX10_layLine_9 rfl (lv_at hl 0 rfl) ?_
        refine va_get (D := (dC, dI)) (ci := 10) (v := .ref (ad 17)) (C := RX10) (T := TX10) (N := 37) hx hb htg inX10 hown hE.1 hP 0 rfl rfl 16 (by decide) (htg _ tw1398) (fun _ h9 => h9) rfl dX10_layLine_10 ?_
        refine lv_iload_n hx hb dX10_layLine_13 rfl (lv_at hl 2 rfl) ?_
        refine lv_bipush (v := 32) hx hb dX10_layLine_14 (by decide) ?_
        obtain ⟨h9, hf⟩ := gd_s hf
        refine va_iast hx hb hE.1 hP hD hS 6 0 rfl rfl h9 dX10_layLine_16 (fun H locs hP hD hS => ?_)
        obtain ⟨g16, h9⟩ : ∃ z, z = (upd m_line_2 v2_2.toNatClampNeg (32 : Int32)) := ⟨_, rfl⟩
        have hf := lb_e h9 hf
        have hP : va_P (dC, dI) vwCl [(ad 0, .inr (10, oM ad m_undoCount m_thrown m_hasSnapshot a_m_fam m_rows m_lineLength m_formattedLength m_bufferLength m_limit m_next m_beginsAt m_token m_error m_errorAt m_errorPosition m_nested m_codeCount)), ((ad 14), .inl (cI, 448, .inl m_boxAt)), ((ad 16), .inl (cI, 28, .inl m_column)), (a_m_fam, .inl (cJ, 130, .inr (.inl m_fam))), ((ad 9), .inl (cI, 16, .inl m_generation)), ((ad 10), .inl (cI, 12, .inl m_level)), ((ad 17), .inl (cI, 800, .inl g16)), ((ad 11), .inl (cI, 16, .inl m_rowSize))] H := by rw [h9]; exact hP
        have hD : va_D A [(ad 0, .inr (10, oM ad m_undoCount m_thrown m_hasSnapshot a_m_fam m_rows m_lineLength m_formattedLength m_bufferLength m_limit m_next m_beginsAt m_token m_error m_errorAt m_errorPosition m_nested m_codeCount)), ((ad 14), .inl (cI, 448, .inl m_boxAt)), ((ad 16), .inl (cI, 28, .inl m_column)), (a_m_fam, .inl (cJ, 130, .inr (.inl m_fam))), ((ad 9), .inl (cI, 16, .inl m_generation)), ((ad 10), .inl (cI, 12, .inl m_level)), ((ad 17), .inl (cI, 800, .inl g16)), ((ad 11), .inl (cI, 16, .inl m_rowSize))] := by rw [h9]; exact hD
        obtain ⟨t17, h9⟩ : ∃ z : Int32, z = (v2_2 + (1 : Int32)) := ⟨_, rfl⟩
        have hf := lb_e h9 hf
        refine lv_iinc (v := t17) (lv' := [(2, .int t17), (0, .ref (ad 0)), (1, .int v1)]) hx hb dX10_layLine_17 hl (k := 2) rfl (by rw [h9]; rfl) (by decide) rfl (fun ls hl => ?_)
        refine lv_goto (tgt := 2) hx hb dX10_layLine_20 (by decide) ?_
        exact ih2 t17 g16 ex2 H locs ls hf hk2 hP hD hS (lv_sub hl [1, 2, 0] rfl)
  obtain ⟨ex, h9, hf⟩ := ob_s hf
  exact K2 FU (0 : Int32) m_line ex H locs ls h9 hf hP hD hS (lv_sub hl [1, 2, 0] rfl)
set_option maxHeartbeats 4000000 in
set_option maxRecDepth 100000 in
theorem c_X10_boxCount (ad : Nat → Nat) (a_m_fam : Nat) (m_undoCount : Int32) (m_thrown : Int32) (m_hasSnapshot : Bool) (m_rows : Int32) (m_lineLength : Int32) (m_formattedLength : Int32) (m_bufferLength : Int32) (m_limit : Int32) (m_next : Int32) (m_beginsAt : Int32) (m_token : Int32) (m_error : Int32) (m_errorAt : Int32) (m_errorPosition : Int32) (m_nested : Int32) (m_codeCount : Int32) (m_isThere : Nat → Bool) (v1 : Int32) (r9 : Int32) (hf : p10_boxCount m_isThere v1 = some r9) : gM l dC dI cI cJ cZ yX10_boxCount cX10_boxCount 4 (some .int) (0) (0) [.ref (ad 0), .int v1] [(ad 0, .inr (10, oM ad m_undoCount m_thrown m_hasSnapshot a_m_fam m_rows m_lineLength m_formattedLength m_bufferLength m_limit m_next m_beginsAt m_token m_error m_errorAt m_errorPosition m_nested m_codeCount)), ((ad 13), .inl (cZ, 28, .inl (bF m_isThere)))] [(ad 0, .inr (10, oM ad m_undoCount m_thrown m_hasSnapshot a_m_fam m_rows m_lineLength m_formattedLength m_bufferLength m_limit m_next m_beginsAt m_token m_error m_errorAt m_errorPosition m_nested m_codeCount)), ((ad 13), .inl (cZ, 28, .inl (bF m_isThere)))] (some (.int r9)) := by
  refine g_start (own := RX10) (by decide +kernel) rfl (Nat.le_of_ble_eq_true rfl) ?_
  intro p e s m below meth c A ls S hr hlocks hE hP hD hS hA hl hin
  have hx := S.1
  have hb := S.2.1
  have hml := S.2.2.1
  have hown := S.2.2.2.1
  have htg : ∀ z ∈ gw, z.before ([.ref (ad 0), .int v1] : List Value).toArray s = true := fun w h => S.2.2.2.2 w (List.mem_cons_of_mem _ h)
  have hl : lv_has ls 4 [(0, .ref (ad 0)), (1, .int v1)] := hl
  have hS0 := hS
  obtain ⟨H, hH⟩ : ∃ H, H = s.heap := ⟨_, rfl⟩
  obtain ⟨locs, hlc⟩ : ∃ locs : List Loc, locs = [] := ⟨_, rfl⟩
  have hS : va_S A s.heap H locs := by rw [hH, hlc]; exact hS0
  have hP : va_P (dC, dI) vwCl [(ad 0, .inr (10, oM ad m_undoCount m_thrown m_hasSnapshot a_m_fam m_rows m_lineLength m_formattedLength m_bufferLength m_limit m_next m_beginsAt m_token m_error m_errorAt m_errorPosition m_nested m_codeCount)), ((ad 13), .inl (cZ, 28, .inl (bF m_isThere)))] H := by rw [hH]; exact hP
  suffices hgo : W p l e ({ frames := 0, cells := 0, slots := 0, locals := 0 }) s m ([.ref (ad 0), .int v1] : List Value).toArray below meth c H locs 0 0 (MQ below (gQ dC dI (some (.int r9)) A [(ad 0, .inr (10, oM ad m_undoCount m_thrown m_hasSnapshot a_m_fam m_rows m_lineLength m_formattedLength m_bufferLength m_limit m_next m_beginsAt m_token m_error m_errorAt m_errorPosition m_nested m_codeCount)), ((ad 13), .inl (cZ, 28, .inl (bF m_isThere)))]) ([.ref (ad 0), .int v1] : List Value).toArray s 0 0 A) (F0 m 0 ls []) by rw [hH, hlc] at hgo; exact hgo
  rw [p10_boxCount] at hf
  have J33 : ∀ (v2_33 : Int32) (H : Heap) (locs : List Loc) (ls : Array Slot), p10_boxCount_J33 v2_33 = some r9 → va_P (dC, dI) vwCl [(ad 0, .inr (10, oM ad m_undoCount m_thrown m_hasSnapshot a_m_fam m_rows m_lineLength m_formattedLength m_bufferLength m_limit m_next m_beginsAt m_token m_error m_errorAt m_errorPosition m_nested m_codeCount)), ((ad 13), .inl (cZ, 28, .inl (bF m_isThere)))] H → va_D A [(ad 0, .inr (10, oM ad m_undoCount m_thrown m_hasSnapshot a_m_fam m_rows m_lineLength m_formattedLength m_bufferLength m_limit m_next m_beginsAt m_token m_error m_errorAt m_errorPosition m_nested m_codeCount)), ((ad 13), .inl (cZ, 28, .inl (bF m_isThere)))] → va_S A s.heap H locs → lv_has ls 4 [(2, .int v2_33)] → W p l e ({ frames := 0, cells := 0, slots := 0, locals := 0 }) s m ([.ref (ad 0), .int v1] : List Value).toArray below meth c H locs 0 0 (MQ below (gQ dC dI (some (.int r9)) A [(ad 0, .inr (10, oM ad m_undoCount m_thrown m_hasSnapshot a_m_fam m_rows m_lineLength m_formattedLength m_bufferLength m_limit m_next m_beginsAt m_token m_error m_errorAt m_errorPosition m_nested m_codeCount)), ((ad 13), .inl (cZ, 28, .inl (bF m_isThere)))]) ([.ref (ad 0), .int v1] : List Value).toArray s 0 0 A) (F0 m 33 ls []) := by
    intro v2_33 H locs ls hf hP hD hS hl
    rw [p10_boxCount_J33] at hf
    refine lv_iload_n hx hb dX10_boxCount_33 rfl (lv_at hl 0 rfl) ?_
    cases hf
    exact g_iret S hr hlocks hP hD hS dX10_boxCount_34
  refine lv_iconst (v := 0) hx hb dX10_boxCount_0 (by decide) ?_
  refine lv_istore_n (lv' := [(2, .int (0 : Int32)), (0, .ref (ad 0)), (1, .int v1)]) hx hb dX10_boxCount_1 rfl hl (by decide) rfl (fun ls hl => ?_)
  refine lv_iload_n hx hb dX10_boxCount_2 rfl (lv_at hl 2 rfl) ?_
  refine lv_istore_n (lv' := [(3, .int v1), (2, .int (0 : Int32)), (0, .ref (ad 0)), (1, .int v1)]) hx hb dX10_boxCount_3 rfl hl (by decide) rfl (fun ls hl => ?_)
  have K4 : ∀ (n4 : Nat) (v2_4 : Int32) (v3_4 : Int32) (ex4 : Int32) (H : Heap) (locs : List Loc) (ls : Array Slot), p10_boxCount_L4 m_isThere n4 v2_4 v3_4 = some ex4 → (fun v2_x4 => p10_boxCount_J33 v2_x4) ex4 = some r9 → va_P (dC, dI) vwCl [(ad 0, .inr (10, oM ad m_undoCount m_thrown m_hasSnapshot a_m_fam m_rows m_lineLength m_formattedLength m_bufferLength m_limit m_next m_beginsAt m_token m_error m_errorAt m_errorPosition m_nested m_codeCount)), ((ad 13), .inl (cZ, 28, .inl (bF m_isThere)))] H → va_D A [(ad 0, .inr (10, oM ad m_undoCount m_thrown m_hasSnapshot a_m_fam m_rows m_lineLength m_formattedLength m_bufferLength m_limit m_next m_beginsAt m_token m_error m_errorAt m_errorPosition m_nested m_codeCount)), ((ad 13), .inl (cZ, 28, .inl (bF m_isThere)))] → va_S A s.heap H locs → lv_has ls 4 [(0, .ref (ad 0)), (2, .int v2_4), (3, .int v3_4)] → W p l e ({ frames := 0, cells := 0, slots := 0, locals := 0 }) s m ([.ref (ad 0), .int v1] : List Value).toArray below meth c H locs 0 0 (MQ below (gQ dC dI (some (.int r9)) A [(ad 0, .inr (10, oM ad m_undoCount m_thrown m_hasSnapshot a_m_fam m_rows m_lineLength m_formattedLength m_bufferLength m_limit m_next m_beginsAt m_token m_error m_errorAt m_errorPosition m_nested m_codeCount)), ((ad 13), .inl (cZ, 28, .inl (bF m_isThere)))]) ([.ref (ad 0), .int v1] : List Value).toArray s 0 0 A) (F0 m 4 ls []) := by
    intro n4
    induction n4 with
    | zero => intro v2_4 v3_4 ex4 H locs ls hf; rw [p10_boxCount_L4] at hf; cases hf
    | succ n4 ih4 =>
      intro v2_4 v3_4 ex4 H locs ls hf hk4 hP hD hS hl
      rw [p10_boxCount_L4, p10_boxCount_L4_B] at hf
      refine lv_iload_n hx hb dX10_boxCount_4 rfl (lv_at hl 2 rfl) ?_
      refine lv_bipush (v := 28) hx hb dX10_boxCount_5 (by decide) ?_
      refine lv_icmp_ge (tgt := 33) hx hb dX10_boxCount_7 (by decide) (fun h9 => ?_) (fun h9 => ?_)
      · have hf := itt h9 hf
        cases hf
        have hf := hk4
        exact J33 v2_4 H locs ls hf hP hD hS (lv_sub hl [1] rfl)
      · have hf := itf h9 hf
        refine lv_iload_n hx hb dX10_boxCount_10 rfl (lv_at hl 1 rfl) ?_
        refine lv_aload_n hx hb dX10_boxCount_11 rfl (lv_at hl 0 rfl) ?_
        refine va_get (D := (dC, dI)) (ci := 10) (v := .ref (ad 13)) (C := RX10) (T := TX10) (N := 37) hx hb htg inX10 hown hE.1 hP 0 rfl rfl 12 (by decide) (htg _ tw1394) (fun _ h9 => h9) rfl dX10_boxCount_12 ?_
        refine lv_iload_n hx hb dX10_boxCount_15 rfl (lv_at hl 2 rfl) ?_
        obtain ⟨h9, hf⟩ := gd_s hf
        refine va_zald hx hb hE.1 hP 1 2 rfl rfl h9 dX10_boxCount_16 ?_
        refine W.eq (g2 := F0 m 17 ls [.int (bI (m_isThere v3_4.toNatClampNeg)), .int v2_4]) rfl ?_
        refine lv_if_eq (tgt := 24) hx hb dX10_boxCount_17 (by decide) (fun h9 => ?_) (fun h9 => ?_)
        · have hf := ctf (bI_0 h9) hf
          refine lv_iconst (v := 0) hx hb dX10_boxCount_24 (by decide) ?_
          refine lv_iadd hx hb dX10_boxCount_25 ?_
          refine lv_topi (fun t26 h9 => ?_)
          have hf := lb_e h9 hf
          refine lv_istore_n (lv' := [(2, .int t26), (0, .ref (ad 0)), (3, .int v3_4)]) hx hb dX10_boxCount_26 rfl hl (by decide) rfl (fun ls hl => ?_)
          obtain ⟨t27, h9⟩ : ∃ z : Int32, z = (v3_4 + (1 : Int32)) := ⟨_, rfl⟩
          have hf := lb_e h9 hf
          refine lv_iinc (v := t27) (lv' := [(3, .int t27), (2, .int t26), (0, .ref (ad 0))]) hx hb dX10_boxCount_27 hl (k := 2) rfl (by rw [h9]; rfl) (by decide) rfl (fun ls hl => ?_)
          refine lv_goto (tgt := 4) hx hb dX10_boxCount_30 (by decide) ?_
          exact ih4 t26 t27 ex4 H locs ls hf hk4 hP hD hS (lv_sub hl [2, 1, 0] rfl)
        · have hf := ctt (bI_1 h9) hf
          refine lv_iconst (v := 1) hx hb dX10_boxCount_20 (by decide) ?_
          refine lv_goto (tgt := 25) hx hb dX10_boxCount_21 (by decide) ?_
          refine lv_iadd hx hb dX10_boxCount_25 ?_
          refine lv_topi (fun t26 h9 => ?_)
          have hf := lb_e h9 hf
          refine lv_istore_n (lv' := [(2, .int t26), (0, .ref (ad 0)), (3, .int v3_4)]) hx hb dX10_boxCount_26 rfl hl (by decide) rfl (fun ls hl => ?_)
          obtain ⟨t27, h9⟩ : ∃ z : Int32, z = (v3_4 + (1 : Int32)) := ⟨_, rfl⟩
          have hf := lb_e h9 hf
          refine lv_iinc (v := t27) (lv' := [(3, .int t27), (2, .int t26), (0, .ref (ad 0))]) hx hb dX10_boxCount_27 hl (k := 2) rfl (by rw [h9]; rfl) (by decide) rfl (fun ls hl => ?_)
          refine lv_goto (tgt := 4) hx hb dX10_boxCount_30 (by decide) ?_
          exact ih4 t26 t27 ex4 H locs ls hf hk4 hP hD hS (lv_sub hl [2, 1, 0] rfl)
  obtain ⟨ex, h9, hf⟩ := ob_s hf
  exact K4 FU (0 : Int32) v1 ex H locs ls h9 hf hP hD hS (lv_sub hl [2, 1, 0] rfl)
set_option maxHeartbeats 4000000 in
set_option maxRecDepth 100000 in
theorem c_X10_childrenOf (ad : Nat → Nat) (a_m_fam : Nat) (m_undoCount : Int32) (m_thrown : Int32) (m_hasSnapshot : Bool) (m_rows : Int32) (m_lineLength : Int32) (m_formattedLength : Int32) (m_bufferLength : Int32) (m_limit : Int32) (m_next : Int32) (m_beginsAt : Int32) (m_token : Int32) (m_error : Int32) (m_errorAt : Int32) (m_errorPosition : Int32) (m_nested : Int32) (m_codeCount : Int32) (m_fam : Nat → Int64) (v1 : Int32) (r9 : Int32) (hf : p10_childrenOf m_fam v1 = some r9) : gM l dC dI cI cJ cZ yX10_childrenOf cX10_childrenOf 4 (some .int) (3) (66) [.ref (ad 0), .int v1] [(ad 0, .inr (10, oM ad m_undoCount m_thrown m_hasSnapshot a_m_fam m_rows m_lineLength m_formattedLength m_bufferLength m_limit m_next m_beginsAt m_token m_error m_errorAt m_errorPosition m_nested m_codeCount)), (a_m_fam, .inl (cJ, 130, .inr (.inl m_fam)))] [(ad 0, .inr (10, oM ad m_undoCount m_thrown m_hasSnapshot a_m_fam m_rows m_lineLength m_formattedLength m_bufferLength m_limit m_next m_beginsAt m_token m_error m_errorAt m_errorPosition m_nested m_codeCount)), (a_m_fam, .inl (cJ, 130, .inr (.inl m_fam)))] (some (.int r9)) := by
  refine g_start (own := RX10) (by decide +kernel) rfl (Nat.le_of_ble_eq_true rfl) ?_
  intro p e s m below meth c A ls S hr hlocks hE hP hD hS hA hl hin
  have hx := S.1
  have hb := S.2.1
  have hml := S.2.2.1
  have hown := S.2.2.2.1
  have htg : ∀ z ∈ gw, z.before ([.ref (ad 0), .int v1] : List Value).toArray s = true := fun w h => S.2.2.2.2 w (List.mem_cons_of_mem _ h)
  have hl : lv_has ls 4 [(0, .ref (ad 0)), (1, .int v1)] := hl
  have hS0 := hS
  obtain ⟨H, hH⟩ : ∃ H, H = s.heap := ⟨_, rfl⟩
  obtain ⟨locs, hlc⟩ : ∃ locs : List Loc, locs = [] := ⟨_, rfl⟩
  have hS : va_S A s.heap H locs := by rw [hH, hlc]; exact hS0
  have hP : va_P (dC, dI) vwCl [(ad 0, .inr (10, oM ad m_undoCount m_thrown m_hasSnapshot a_m_fam m_rows m_lineLength m_formattedLength m_bufferLength m_limit m_next m_beginsAt m_token m_error m_errorAt m_errorPosition m_nested m_codeCount)), (a_m_fam, .inl (cJ, 130, .inr (.inl m_fam)))] H := by rw [hH]; exact hP
  suffices hgo : W p l e ({ frames := 3, cells := 0, slots := 0, locals := 66 }) s m ([.ref (ad 0), .int v1] : List Value).toArray below meth c H locs 0 0 (MQ below (gQ dC dI (some (.int r9)) A [(ad 0, .inr (10, oM ad m_undoCount m_thrown m_hasSnapshot a_m_fam m_rows m_lineLength m_formattedLength m_bufferLength m_limit m_next m_beginsAt m_token m_error m_errorAt m_errorPosition m_nested m_codeCount)), (a_m_fam, .inl (cJ, 130, .inr (.inl m_fam)))]) ([.ref (ad 0), .int v1] : List Value).toArray s 0 0 A) (F0 m 0 ls []) by rw [hH, hlc] at hgo; exact hgo
  rw [p10_childrenOf] at hf
  have J39 : ∀ (v2_39 : Int32) (H : Heap) (locs : List Loc) (ls : Array Slot), p10_childrenOf_J39 v2_39 = some r9 → va_P (dC, dI) vwCl [(ad 0, .inr (10, oM ad m_undoCount m_thrown m_hasSnapshot a_m_fam m_rows m_lineLength m_formattedLength m_bufferLength m_limit m_next m_beginsAt m_token m_error m_errorAt m_errorPosition m_nested m_codeCount)), (a_m_fam, .inl (cJ, 130, .inr (.inl m_fam)))] H → va_D A [(ad 0, .inr (10, oM ad m_undoCount m_thrown m_hasSnapshot a_m_fam m_rows m_lineLength m_formattedLength m_bufferLength m_limit m_next m_beginsAt m_token m_error m_errorAt m_errorPosition m_nested m_codeCount)), (a_m_fam, .inl (cJ, 130, .inr (.inl m_fam)))] → va_S A s.heap H locs → lv_has ls 4 [(2, .int v2_39)] → W p l e ({ frames := 3, cells := 0, slots := 0, locals := 66 }) s m ([.ref (ad 0), .int v1] : List Value).toArray below meth c H locs 0 0 (MQ below (gQ dC dI (some (.int r9)) A [(ad 0, .inr (10, oM ad m_undoCount m_thrown m_hasSnapshot a_m_fam m_rows m_lineLength m_formattedLength m_bufferLength m_limit m_next m_beginsAt m_token m_error m_errorAt m_errorPosition m_nested m_codeCount)), (a_m_fam, .inl (cJ, 130, .inr (.inl m_fam)))]) ([.ref (ad 0), .int v1] : List Value).toArray s 0 0 A) (F0 m 39 ls []) := by
    intro v2_39 H locs ls hf hP hD hS hl
    rw [p10_childrenOf_J39] at hf
    refine lv_iload_n hx hb dX10_childrenOf_39 rfl (lv_at hl 0 rfl) ?_
    cases hf
    exact g_iret S hr hlocks hP hD hS dX10_childrenOf_40
  refine lv_iconst (v := 0) hx hb dX10_childrenOf_0 (by decide) ?_
  refine lv_istore_n (lv' := [(2, .int (0 : Int32)), (0, .ref (ad 0)), (1, .int v1)]) hx hb dX10_childrenOf_1 rfl hl (by decide) rfl (fun ls hl => ?_)
  refine lv_iconst (v := 0) hx hb dX10_childrenOf_2 (by decide) ?_
  refine lv_istore_n (lv' := [(3, .int (0 : Int32)), (2, .int (0 : Int32)), (0, .ref (ad 0)), (1, .int v1)]) hx hb dX10_childrenOf_3 rfl hl (by decide) rfl (fun ls hl => ?_)
  have K4 : ∀ (n4 : Nat) (v2_4 : Int32) (v3_4 : Int32) (ex4 : Int32) (H : Heap) (locs : List Loc) (ls : Array Slot), p10_childrenOf_L4 m_fam v1 n4 v2_4 v3_4 = some ex4 → (fun v2_x4 => p10_childrenOf_J39 v2_x4) ex4 = some r9 → va_P (dC, dI) vwCl [(ad 0, .inr (10, oM ad m_undoCount m_thrown m_hasSnapshot a_m_fam m_rows m_lineLength m_formattedLength m_bufferLength m_limit m_next m_beginsAt m_token m_error m_errorAt m_errorPosition m_nested m_codeCount)), (a_m_fam, .inl (cJ, 130, .inr (.inl m_fam)))] H → va_D A [(ad 0, .inr (10, oM ad m_undoCount m_thrown m_hasSnapshot a_m_fam m_rows m_lineLength m_formattedLength m_bufferLength m_limit m_next m_beginsAt m_token m_error m_errorAt m_errorPosition m_nested m_codeCount)), (a_m_fam, .inl (cJ, 130, .inr (.inl m_fam)))] → va_S A s.heap H locs → lv_has ls 4 [(0, .ref (ad 0)), (1, .int v1), (2, .int v2_4), (3, .int v3_4)] → W p l e ({ frames := 3, cells := 0, slots := 0, locals := 66 }) s m ([.ref (ad 0), .int v1] : List Value).toArray below meth c H locs 0 0 (MQ below (gQ dC dI (some (.int r9)) A [(ad 0, .inr (10, oM ad m_undoCount m_thrown m_hasSnapshot a_m_fam m_rows m_lineLength m_formattedLength m_bufferLength m_limit m_next m_beginsAt m_token m_error m_errorAt m_errorPosition m_nested m_codeCount)), (a_m_fam, .inl (cJ, 130, .inr (.inl m_fam)))]) ([.ref (ad 0), .int v1] : List Value).toArray s 0 0 A) (F0 m 4 ls []) := by
    intro n4
    induction n4 with
    | zero => intro v2_4 v3_4 ex4 H locs ls hf; rw [p10_childrenOf_L4] at hf; cases hf
    | succ n4 ih4 =>
      intro v2_4 v3_4 ex4 H locs ls hf hk4 hP hD hS hl
      rw [p10_childrenOf_L4, p10_childrenOf_L4_B] at hf
      refine lv_iload_n hx hb dX10_childrenOf_4 rfl (lv_at hl 3 rfl) ?_
      refine lv_aload_n hx hb dX10_childrenOf_5 rfl (lv_at hl 0 rfl) ?_
      obtain ⟨r6, h9, hf⟩ := ob_s hf
      refine gcV (index := 110) S hE (c_X10_unions ad a_m_fam m_undoCount m_thrown m_hasSnapshot m_rows m_lineLength m_formattedLength m_bufferLength m_limit m_next m_beginsAt m_token m_error m_errorAt m_errorPosition m_nested m_codeCount m_fam r6 h9) mX10_unions tw1532 ⟨Nat.le_of_ble_eq_true rfl, Nat.le_of_ble_eq_true rfl⟩ hP hD hS hA ⟨Nat.zero_le _, Nat.zero_le _⟩ 0 10 rfl rfl rfl (wr := []) [0, 1] [] rfl rfl rfl rfl (by decide) (As := []) (rest := [.int v3_4]) rfl hl.1 rfl (Nat.le_of_ble_eq_true rfl) dX10_childrenOf_6 (fun H locs hP hD hS => ?_)
      refine W.eq (g2 := F0 m 9 ls [.int r6, .int v3_4]) rfl ?_
      have hP : va_P (dC, dI) vwCl [(ad 0, .inr (10, oM ad m_undoCount m_thrown m_hasSnapshot a_m_fam m_rows m_lineLength m_formattedLength m_bufferLength m_limit m_next m_beginsAt m_token m_error m_errorAt m_errorPosition m_nested m_codeCount)), (a_m_fam, .inl (cJ, 130, .inr (.inl m_fam)))] H := hP
      have hD : va_D A [(ad 0, .inr (10, oM ad m_undoCount m_thrown m_hasSnapshot a_m_fam m_rows m_lineLength m_formattedLength m_bufferLength m_limit m_next m_beginsAt m_token m_error m_errorAt m_errorPosition m_nested m_codeCount)), (a_m_fam, .inl (cJ, 130, .inr (.inl m_fam)))] := hD
      refine lv_icmp_ge (tgt := 39) hx hb dX10_childrenOf_9 (by decide) (fun h9 => ?_) (fun h9 => ?_)
      · have hf := itt h9 hf
        cases hf
        have hf := hk4
        exact J39 v2_4 H locs ls hf hP hD hS (lv_sub hl [2] rfl)
      · have hf := itf h9 hf
        refine lv_iload_n hx hb dX10_childrenOf_12 rfl (lv_at hl 2 rfl) ?_
        refine lv_aload_n hx hb dX10_childrenOf_13 rfl (lv_at hl 0 rfl) ?_
        refine lv_iload_n hx hb dX10_childrenOf_14 rfl (lv_at hl 3 rfl) ?_
        refine lv_iload_n hx hb dX10_childrenOf_15 rfl (lv_at hl 1 rfl) ?_
        obtain ⟨r16, h9, hf⟩ := ob_s hf
        refine gcV (index := 113) S hE (c_X10_isPartner ad a_m_fam m_undoCount m_thrown m_hasSnapshot m_rows m_lineLength m_formattedLength m_bufferLength m_limit m_next m_beginsAt m_token m_error m_errorAt m_errorPosition m_nested m_codeCount m_fam v3_4 v1 r16 h9) mX10_isPartner tw1564 ⟨Nat.le_of_ble_eq_true rfl, Nat.le_of_ble_eq_true rfl⟩ hP hD hS hA ⟨Nat.zero_le _, Nat.zero_le _⟩ 0 10 rfl rfl rfl (wr := []) [0, 1] [] rfl rfl rfl rfl (by decide) (As := [.int v3_4, .int v1]) (rest := [.int v2_4]) rfl hl.1 rfl (Nat.le_of_ble_eq_true rfl) dX10_childrenOf_16 (fun H locs hP hD hS => ?_)
        refine W.eq (g2 := F0 m 19 ls [.int (bI r16), .int v2_4]) rfl ?_
        have hP : va_P (dC, dI) vwCl [(ad 0, .inr (10, oM ad m_undoCount m_thrown m_hasSnapshot a_m_fam m_rows m_lineLength m_formattedLength m_bufferLength m_limit m_next m_beginsAt m_token m_error m_errorAt m_errorPosition m_nested m_codeCount)), (a_m_fam, .inl (cJ, 130, .inr (.inl m_fam)))] H := hP
        have hD : va_D A [(ad 0, .inr (10, oM ad m_undoCount m_thrown m_hasSnapshot a_m_fam m_rows m_lineLength m_formattedLength m_bufferLength m_limit m_next m_beginsAt m_token m_error m_errorAt m_errorPosition m_nested m_codeCount)), (a_m_fam, .inl (cJ, 130, .inr (.inl m_fam)))] := hD
        refine lv_if_eq (tgt := 30) hx hb dX10_childrenOf_19 (by decide) (fun h9 => ?_) (fun h9 => ?_)
        · have hf := ctf (bI_0 h9) hf
          refine lv_iconst (v := 0) hx hb dX10_childrenOf_30 (by decide) ?_
          refine lv_ior hx hb dX10_childrenOf_31 ?_
          refine lv_topi (fun t32 h9 => ?_)
          have hf := lb_e h9 hf
          refine lv_istore_n (lv' := [(2, .int t32), (0, .ref (ad 0)), (1, .int v1), (3, .int v3_4)]) hx hb dX10_childrenOf_32 rfl hl (by decide) rfl (fun ls hl => ?_)
          obtain ⟨t33, h9⟩ : ∃ z : Int32, z = (v3_4 + (1 : Int32)) := ⟨_, rfl⟩
          have hf := lb_e h9 hf
          refine lv_iinc (v := t33) (lv' := [(3, .int t33), (2, .int t32), (0, .ref (ad 0)), (1, .int v1)]) hx hb dX10_childrenOf_33 hl (k := 3) rfl (by rw [h9]; rfl) (by decide) rfl (fun ls hl => ?_)
          refine lv_goto (tgt := 4) hx hb dX10_childrenOf_36 (by decide) ?_
          exact ih4 t32 t33 ex4 H locs ls hf hk4 hP hD hS (lv_sub hl [2, 3, 1, 0] rfl)
        · have hf := ctt (bI_1 h9) hf
          refine lv_aload_n hx hb dX10_childrenOf_22 rfl (lv_at hl 0 rfl) ?_
          refine lv_iload_n hx hb dX10_childrenOf_23 rfl (lv_at hl 3 rfl) ?_
          obtain ⟨r24, h9, hf⟩ := ob_s hf
          refine gcV (index := 221) S hE (c_X10_childMask ad a_m_fam m_undoCount m_thrown m_hasSnapshot m_rows m_lineLength m_formattedLength m_bufferLength m_limit m_next m_beginsAt m_token m_error m_errorAt m_errorPosition m_nested m_codeCount m_fam v3_4 r24 h9) mX10_childMask tw1568 ⟨Nat.le_of_ble_eq_true rfl, Nat.le_of_ble_eq_true rfl⟩ hP hD hS hA ⟨Nat.zero_le _, Nat.zero_le _⟩ 0 10 rfl rfl rfl (wr := []) [0, 1] [] rfl rfl rfl rfl (by decide) (As := [.int v3_4]) (rest := [.int v2_4]) rfl hl.1 rfl (Nat.le_of_ble_eq_true rfl) dX10_childrenOf_24 (fun H locs hP hD hS => ?_)
          refine W.eq (g2 := F0 m 27 ls [.int r24, .int v2_4]) rfl ?_
          have hP : va_P (dC, dI) vwCl [(ad 0, .inr (10, oM ad m_undoCount m_thrown m_hasSnapshot a_m_fam m_rows m_lineLength m_formattedLength m_bufferLength m_limit m_next m_beginsAt m_token m_error m_errorAt m_errorPosition m_nested m_codeCount)), (a_m_fam, .inl (cJ, 130, .inr (.inl m_fam)))] H := hP
          have hD : va_D A [(ad 0, .inr (10, oM ad m_undoCount m_thrown m_hasSnapshot a_m_fam m_rows m_lineLength m_formattedLength m_bufferLength m_limit m_next m_beginsAt m_token m_error m_errorAt m_errorPosition m_nested m_codeCount)), (a_m_fam, .inl (cJ, 130, .inr (.inl m_fam)))] := hD
          refine lv_goto (tgt := 31) hx hb dX10_childrenOf_27 (by decide) ?_
          refine lv_ior hx hb dX10_childrenOf_31 ?_
          refine lv_topi (fun t32 h9 => ?_)
          have hf := lb_e h9 hf
          refine lv_istore_n (lv' := [(2, .int t32), (0, .ref (ad 0)), (1, .int v1), (3, .int v3_4)]) hx hb dX10_childrenOf_32 rfl hl (by decide) rfl (fun ls hl => ?_)
          obtain ⟨t33, h9⟩ : ∃ z : Int32, z = (v3_4 + (1 : Int32)) := ⟨_, rfl⟩
          have hf := lb_e h9 hf
          refine lv_iinc (v := t33) (lv' := [(3, .int t33), (2, .int t32), (0, .ref (ad 0)), (1, .int v1)]) hx hb dX10_childrenOf_33 hl (k := 3) rfl (by rw [h9]; rfl) (by decide) rfl (fun ls hl => ?_)
          refine lv_goto (tgt := 4) hx hb dX10_childrenOf_36 (by decide) ?_
          exact ih4 t32 t33 ex4 H locs ls hf hk4 hP hD hS (lv_sub hl [2, 3, 1, 0] rfl)
  obtain ⟨ex, h9, hf⟩ := ob_s hf
  exact K4 FU (0 : Int32) (0 : Int32) ex H locs ls h9 hf hP hD hS (lv_sub hl [2, 3, 1, 0] rfl)
set_option maxHeartbeats 4000000 in
set_option maxRecDepth 100000 in
theorem c_X10_personsWithout (ad : Nat → Nat) (a_m_fam : Nat) (m_undoCount : Int32) (m_thrown : Int32) (m_hasSnapshot : Bool) (m_rows : Int32) (m_lineLength : Int32) (m_formattedLength : Int32) (m_bufferLength : Int32) (m_limit : Int32) (m_next : Int32) (m_beginsAt : Int32) (m_token : Int32) (m_error : Int32) (m_errorAt : Int32) (m_errorPosition : Int32) (m_nested : Int32) (m_codeCount : Int32) (m_fam : Nat → Int64) (v1 : Bool) (r9 : Int32) (hf : p10_personsWithout m_fam v1 = some r9) : gM l dC dI cI cJ cZ yX10_personsWithout cX10_personsWithout 5 (some .int) (4) (89) [.ref (ad 0), .int (bI v1)] [(ad 0, .inr (10, oM ad m_undoCount m_thrown m_hasSnapshot a_m_fam m_rows m_lineLength m_formattedLength m_bufferLength m_limit m_next m_beginsAt m_token m_error m_errorAt m_errorPosition m_nested m_codeCount)), (a_m_fam, .inl (cJ, 130, .inr (.inl m_fam)))] [(ad 0, .inr (10, oM ad m_undoCount m_thrown m_hasSnapshot a_m_fam m_rows m_lineLength m_formattedLength m_bufferLength m_limit m_next m_beginsAt m_token m_error m_errorAt m_errorPosition m_nested m_codeCount)), (a_m_fam, .inl (cJ, 130, .inr (.inl m_fam)))] (some (.int r9)) := by
  refine g_start (own := RX10) (by decide +kernel) rfl (Nat.le_of_ble_eq_true rfl) ?_
  intro p e s m below meth c A ls S hr hlocks hE hP hD hS hA hl hin
  have hx := S.1
  have hb := S.2.1
  have hml := S.2.2.1
  have hown := S.2.2.2.1
  have htg : ∀ z ∈ gw, z.before ([.ref (ad 0), .int (bI v1)] : List Value).toArray s = true := fun w h => S.2.2.2.2 w (List.mem_cons_of_mem _ h)
  have hl : lv_has ls 5 [(0, .ref (ad 0)), (1, .int (bI v1))] := hl
  have hS0 := hS
  obtain ⟨H, hH⟩ : ∃ H, H = s.heap := ⟨_, rfl⟩
  obtain ⟨locs, hlc⟩ : ∃ locs : List Loc, locs = [] := ⟨_, rfl⟩
  have hS : va_S A s.heap H locs := by rw [hH, hlc]; exact hS0
  have hP : va_P (dC, dI) vwCl [(ad 0, .inr (10, oM ad m_undoCount m_thrown m_hasSnapshot a_m_fam m_rows m_lineLength m_formattedLength m_bufferLength m_limit m_next m_beginsAt m_token m_error m_errorAt m_errorPosition m_nested m_codeCount)), (a_m_fam, .inl (cJ, 130, .inr (.inl m_fam)))] H := by rw [hH]; exact hP
  suffices hgo : W p l e ({ frames := 4, cells := 0, slots := 0, locals := 89 }) s m ([.ref (ad 0), .int (bI v1)] : List Value).toArray below meth c H locs 0 0 (MQ below (gQ dC dI (some (.int r9)) A [(ad 0, .inr (10, oM ad m_undoCount m_thrown m_hasSnapshot a_m_fam m_rows m_lineLength m_formattedLength m_bufferLength m_limit m_next m_beginsAt m_token m_error m_errorAt m_errorPosition m_nested m_codeCount)), (a_m_fam, .inl (cJ, 130, .inr (.inl m_fam)))]) ([.ref (ad 0), .int (bI v1)] : List Value).toArray s 0 0 A) (F0 m 0 ls []) by rw [hH, hlc] at hgo; exact hgo
  rw [p10_personsWithout] at hf
  have J67 : ∀ (v2_67 : Int32) (H : Heap) (locs : List Loc) (ls : Array Slot), p10_personsWithout_J67 v2_67 = some r9 → va_P (dC, dI) vwCl [(ad 0, .inr (10, oM ad m_undoCount m_thrown m_hasSnapshot a_m_fam m_rows m_lineLength m_formattedLength m_bufferLength m_limit m_next m_beginsAt m_token m_error m_errorAt m_errorPosition m_nested m_codeCount)), (a_m_fam, .inl (cJ, 130, .inr (.inl m_fam)))] H → va_D A [(ad 0, .inr (10, oM ad m_undoCount m_thrown m_hasSnapshot a_m_fam m_rows m_lineLength m_formattedLength m_bufferLength m_limit m_next m_beginsAt m_token m_error m_errorAt m_errorPosition m_nested m_codeCount)), (a_m_fam, .inl (cJ, 130, .inr (.inl m_fam)))] → va_S A s.heap H locs → lv_has ls 5 [(2, .int v2_67)] → W p l e ({ frames := 4, cells := 0, slots := 0, locals := 89 }) s m ([.ref (ad 0), .int (bI v1)] : List Value).toArray below meth c H locs 0 0 (MQ below (gQ dC dI (some (.int r9)) A [(ad 0, .inr (10, oM ad m_undoCount m_thrown m_hasSnapshot a_m_fam m_rows m_lineLength m_formattedLength m_bufferLength m_limit m_next m_beginsAt m_token m_error m_errorAt m_errorPosition m_nested m_codeCount)), (a_m_fam, .inl (cJ, 130, .inr (.inl m_fam)))]) ([.ref (ad 0), .int (bI v1)] : List Value).toArray s 0 0 A) (F0 m 67 ls []) := by
    intro v2_67 H locs ls hf hP hD hS hl
    rw [p10_personsWithout_J67] at hf
    refine lv_iload_n hx hb dX10_personsWithout_67 rfl (lv_at hl 0 rfl) ?_
    cases hf
    exact g_iret S hr hlocks hP hD hS dX10_personsWithout_68
  refine lv_iconst (v := 0) hx hb dX10_personsWithout_0 (by decide) ?_
  refine lv_istore_n (lv' := [(2, .int (0 : Int32)), (0, .ref (ad 0)), (1, .int (bI v1))]) hx hb dX10_personsWithout_1 rfl hl (by decide) rfl (fun ls hl => ?_)
  refine lv_iconst (v := 0) hx hb dX10_personsWithout_2 (by decide) ?_
  refine lv_istore_n (lv' := [(3, .int (0 : Int32)), (2, .int (0 : Int32)), (0, .ref (ad 0)), (1, .int (bI v1))]) hx hb dX10_personsWithout_3 rfl hl (by decide) rfl (fun ls hl => ?_)
  have K4 : ∀ (n4 : Nat) (v2_4 : Int32) (v3_4 : Int32) (ex4 : Int32) (H : Heap) (locs : List Loc) (ls : Array Slot), p10_personsWithout_L4 m_fam v1 n4 v2_4 v3_4 = some ex4 → (fun v2_x4 => p10_personsWithout_J67 v2_x4) ex4 = some r9 → va_P (dC, dI) vwCl [(ad 0, .inr (10, oM ad m_undoCount m_thrown m_hasSnapshot a_m_fam m_rows m_lineLength m_formattedLength m_bufferLength m_limit m_next m_beginsAt m_token m_error m_errorAt m_errorPosition m_nested m_codeCount)), (a_m_fam, .inl (cJ, 130, .inr (.inl m_fam)))] H → va_D A [(ad 0, .inr (10, oM ad m_undoCount m_thrown m_hasSnapshot a_m_fam m_rows m_lineLength m_formattedLength m_bufferLength m_limit m_next m_beginsAt m_token m_error m_errorAt m_errorPosition m_nested m_codeCount)), (a_m_fam, .inl (cJ, 130, .inr (.inl m_fam)))] → va_S A s.heap H locs → lv_has ls 5 [(0, .ref (ad 0)), (1, .int (bI v1)), (2, .int v2_4), (3, .int v3_4)] → W p l e ({ frames := 4, cells := 0, slots := 0, locals := 89 }) s m ([.ref (ad 0), .int (bI v1)] : List Value).toArray below meth c H locs 0 0 (MQ below (gQ dC dI (some (.int r9)) A [(ad 0, .inr (10, oM ad m_undoCount m_thrown m_hasSnapshot a_m_fam m_rows m_lineLength m_formattedLength m_bufferLength m_limit m_next m_beginsAt m_token m_error m_errorAt m_errorPosition m_nested m_codeCount)), (a_m_fam, .inl (cJ, 130, .inr (.inl m_fam)))]) ([.ref (ad 0), .int (bI v1)] : List Value).toArray s 0 0 A) (F0 m 4 ls []) := by
    intro n4
    induction n4 with
    | zero => intro v2_4 v3_4 ex4 H locs ls hf; rw [p10_personsWithout_L4] at hf; cases hf
    | succ n4 ih4 =>
      intro v2_4 v3_4 ex4 H locs ls hf hk4 hP hD hS hl
      rw [p10_personsWithout_L4, p10_personsWithout_L4_B] at hf
      have J48 : ∀ (v4_48 : Bool) (H : Heap) (locs : List Loc) (ls : Array Slot), p10_personsWithout_J48 (p10_personsWithout_L4 m_fam v1 n4) v2_4 v3_4 v4_48 = some ex4 → va_P (dC, dI) vwCl [(ad 0, .inr (10, oM ad m_undoCount m_thrown m_hasSnapshot a_m_fam m_rows m_lineLength m_formattedLength m_bufferLength m_limit m_next m_beginsAt m_token m_error m_errorAt m_errorPosition m_nested m_codeCount)), (a_m_fam, .inl (cJ, 130, .inr (.inl m_fam)))] H → va_D A [(ad 0, .inr (10, oM ad m_undoCount m_thrown m_hasSnapshot a_m_fam m_rows m_lineLength m_formattedLength m_bufferLength m_limit m_next m_beginsAt m_token m_error m_errorAt m_errorPosition m_nested m_codeCount)), (a_m_fam, .inl (cJ, 130, .inr (.inl m_fam)))] → va_S A s.heap H locs → lv_has ls 5 [(0, .ref (ad 0)), (1, .int (bI v1)), (2, .int v2_4), (3, .int v3_4), (4, .int (bI v4_48))] → W p l e ({ frames := 4, cells := 0, slots := 0, locals := 89 }) s m ([.ref (ad 0), .int (bI v1)] : List Value).toArray below meth c H locs 0 0 (MQ below (gQ dC dI (some (.int r9)) A [(ad 0, .inr (10, oM ad m_undoCount m_thrown m_hasSnapshot a_m_fam m_rows m_lineLength m_formattedLength m_bufferLength m_limit m_next m_beginsAt m_token m_error m_errorAt m_errorPosition m_nested m_codeCount)), (a_m_fam, .inl (cJ, 130, .inr (.inl m_fam)))]) ([.ref (ad 0), .int (bI v1)] : List Value).toArray s 0 0 A) (F0 m 48 ls []) := by
        intro v4_48 H locs ls hf hP hD hS hl
        rw [p10_personsWithout_J48] at hf
        refine lv_iload_n hx hb dX10_personsWithout_48 rfl (lv_at hl 2 rfl) ?_
        refine lv_iload hx hb dX10_personsWithout_49 (lv_at hl 4 rfl) ?_
        refine lv_if_eq (tgt := 58) hx hb dX10_personsWithout_51 (by decide) (fun h9 => ?_) (fun h9 => ?_)
        · have hf := ctf (bI_0 h9) hf
          refine lv_iconst (v := 0) hx hb dX10_personsWithout_58 (by decide) ?_
          refine lv_iadd hx hb dX10_personsWithout_59 ?_
          refine lv_topi (fun t60 h9 => ?_)
          have hf := lb_e h9 hf
          refine lv_istore_n (lv' := [(2, .int t60), (0, .ref (ad 0)), (1, .int (bI v1)), (3, .int v3_4), (4, .int (bI v4_48))]) hx hb dX10_personsWithout_60 rfl hl (by decide) rfl (fun ls hl => ?_)
          obtain ⟨t61, h9⟩ : ∃ z : Int32, z = (v3_4 + (1 : Int32)) := ⟨_, rfl⟩
          have hf := lb_e h9 hf
          refine lv_iinc (v := t61) (lv' := [(3, .int t61), (2, .int t60), (0, .ref (ad 0)), (1, .int (bI v1)), (4, .int (bI v4_48))]) hx hb dX10_personsWithout_61 hl (k := 3) rfl (by rw [h9]; rfl) (by decide) rfl (fun ls hl => ?_)
          refine lv_goto (tgt := 4) hx hb dX10_personsWithout_64 (by decide) ?_
          exact ih4 t60 t61 ex4 H locs ls hf hk4 hP hD hS (lv_sub hl [2, 3, 1, 0] rfl)
        · have hf := ctt (bI_1 h9) hf
          refine lv_iconst (v := 1) hx hb dX10_personsWithout_54 (by decide) ?_
          refine lv_goto (tgt := 59) hx hb dX10_personsWithout_55 (by decide) ?_
          refine lv_iadd hx hb dX10_personsWithout_59 ?_
          refine lv_topi (fun t60 h9 => ?_)
          have hf := lb_e h9 hf
          refine lv_istore_n (lv' := [(2, .int t60), (0, .ref (ad 0)), (1, .int (bI v1)), (3, .int v3_4), (4, .int (bI v4_48))]) hx hb dX10_personsWithout_60 rfl hl (by decide) rfl (fun ls hl => ?_)
          obtain ⟨t61, h9⟩ : ∃ z : Int32, z = (v3_4 + (1 : Int32)) := ⟨_, rfl⟩
          have hf := lb_e h9 hf
          refine lv_iinc (v := t61) (lv' := [(3, .int t61), (2, .int t60), (0, .ref (ad 0)), (1, .int (bI v1)), (4, .int (bI v4_48))]) hx hb dX10_personsWithout_61 hl (k := 3) rfl (by rw [h9]; rfl) (by decide) rfl (fun ls hl => ?_)
          refine lv_goto (tgt := 4) hx hb dX10_personsWithout_64 (by decide) ?_
          exact ih4 t60 t61 ex4 H locs ls hf hk4 hP hD hS (lv_sub hl [2, 3, 1, 0] rfl)
      refine lv_iload_n hx hb dX10_personsWithout_4 rfl (lv_at hl 3 rfl) ?_
      refine lv_aload_n hx hb dX10_personsWithout_5 rfl (lv_at hl 0 rfl) ?_
      obtain ⟨r6, h9, hf⟩ := ob_s hf
      refine gcV (index := 121) S hE (c_X10_persons ad a_m_fam m_undoCount m_thrown m_hasSnapshot m_rows m_lineLength m_formattedLength m_bufferLength m_limit m_next m_beginsAt m_token m_error m_errorAt m_errorPosition m_nested m_codeCount m_fam r6 h9) mX10_persons tw1511 ⟨Nat.le_of_ble_eq_true rfl, Nat.le_of_ble_eq_true rfl⟩ hP hD hS hA ⟨Nat.zero_le _, Nat.zero_le _⟩ 0 10 rfl rfl rfl (wr := []) [0, 1] [] rfl rfl rfl rfl (by decide) (As := []) (rest := [.int v3_4]) rfl hl.1 rfl (Nat.le_of_ble_eq_true rfl) dX10_personsWithout_6 (fun H locs hP hD hS => ?_)
      refine W.eq (g2 := F0 m 9 ls [.int r6, .int v3_4]) rfl ?_
      have hP : va_P (dC, dI) vwCl [(ad 0, .inr (10, oM ad m_undoCount m_thrown m_hasSnapshot a_m_fam m_rows m_lineLength m_formattedLength m_bufferLength m_limit m_next m_beginsAt m_token m_error m_errorAt m_errorPosition m_nested m_codeCount)), (a_m_fam, .inl (cJ, 130, .inr (.inl m_fam)))] H := hP
      have hD : va_D A [(ad 0, .inr (10, oM ad m_undoCount m_thrown m_hasSnapshot a_m_fam m_rows m_lineLength m_formattedLength m_bufferLength m_limit m_next m_beginsAt m_token m_error m_errorAt m_errorPosition m_nested m_codeCount)), (a_m_fam, .inl (cJ, 130, .inr (.inl m_fam)))] := hD
      refine lv_icmp_ge (tgt := 67) hx hb dX10_personsWithout_9 (by decide) (fun h9 => ?_) (fun h9 => ?_)
      · have hf := itt h9 hf
        cases hf
        have hf := hk4
        exact J67 v2_4 H locs ls hf hP hD hS (lv_sub hl [2] rfl)
      · have hf := itf h9 hf
        refine lv_iload_n hx hb dX10_personsWithout_12 rfl (lv_at hl 1 rfl) ?_
        refine lv_if_eq (tgt := 33) hx hb dX10_personsWithout_13 (by decide) (fun h9 => ?_) (fun h9 => ?_)
        · have hf := ctf (bI_0 h9) hf
          refine lv_aload_n hx hb dX10_personsWithout_33 rfl (lv_at hl 0 rfl) ?_
          refine lv_iload_n hx hb dX10_personsWithout_34 rfl (lv_at hl 3 rfl) ?_
          obtain ⟨r35, h9, hf⟩ := ob_s hf
          refine gcV (index := 224) S hE (c_X10_childrenOf ad a_m_fam m_undoCount m_thrown m_hasSnapshot m_rows m_lineLength m_formattedLength m_bufferLength m_limit m_next m_beginsAt m_token m_error m_errorAt m_errorPosition m_nested m_codeCount m_fam v3_4 r35 h9) mX10_childrenOf tw1560 ⟨Nat.le_of_ble_eq_true rfl, Nat.le_of_ble_eq_true rfl⟩ hP hD hS hA ⟨Nat.zero_le _, Nat.zero_le _⟩ 0 10 rfl rfl rfl (wr := []) [0, 1] [] rfl rfl rfl rfl (by decide) (As := [.int v3_4]) (rest := []) rfl hl.1 rfl (Nat.le_of_ble_eq_true rfl) dX10_personsWithout_35 (fun H locs hP hD hS => ?_)
          refine W.eq (g2 := F0 m 38 ls [.int r35]) rfl ?_
          have hP : va_P (dC, dI) vwCl [(ad 0, .inr (10, oM ad m_undoCount m_thrown m_hasSnapshot a_m_fam m_rows m_lineLength m_formattedLength m_bufferLength m_limit m_next m_beginsAt m_token m_error m_errorAt m_errorPosition m_nested m_codeCount)), (a_m_fam, .inl (cJ, 130, .inr (.inl m_fam)))] H := hP
          have hD : va_D A [(ad 0, .inr (10, oM ad m_undoCount m_thrown m_hasSnapshot a_m_fam m_rows m_lineLength m_formattedLength m_bufferLength m_limit m_next m_beginsAt m_token m_error m_errorAt m_errorPosition m_nested m_codeCount)), (a_m_fam, .inl (cJ, 130, .inr (.inl m_fam)))] := hD
          refine lv_if_ne (tgt := 45) hx hb dX10_personsWithout_38 (by decide) (fun h9 => ?_) (fun h9 => ?_)
          · have hf := itf h9 hf
            refine lv_iconst (v := 0) hx hb dX10_personsWithout_45 (by decide) ?_
            refine lv_istore (lv' := [(4, .int (0 : Int32)), (0, .ref (ad 0)), (1, .int (bI v1)), (2, .int v2_4), (3, .int v3_4)]) hx hb dX10_personsWithout_46 hl (by decide) rfl (fun ls hl => ?_)
            exact J48 false H locs ls hf hP hD hS (lv_sub hl [1, 2, 3, 4, 0] rfl)
          · have hf := itt h9 hf
            refine lv_iconst (v := 1) hx hb dX10_personsWithout_41 (by decide) ?_
            refine lv_goto (tgt := 46) hx hb dX10_personsWithout_42 (by decide) ?_
            refine lv_istore (lv' := [(4, .int (1 : Int32)), (0, .ref (ad 0)), (1, .int (bI v1)), (2, .int v2_4), (3, .int v3_4)]) hx hb dX10_personsWithout_46 hl (by decide) rfl (fun ls hl => ?_)
            exact J48 true H locs ls hf hP hD hS (lv_sub hl [1, 2, 3, 4, 0] rfl)
        · have hf := ctt (bI_1 h9) hf
          refine lv_aload_n hx hb dX10_personsWithout_16 rfl (lv_at hl 0 rfl) ?_
          refine lv_iload_n hx hb dX10_personsWithout_17 rfl (lv_at hl 3 rfl) ?_
          obtain ⟨r18, h9, hf⟩ := ob_s hf
          refine gcV (index := 117) S hE (c_X10_parentsOf ad a_m_fam m_undoCount m_thrown m_hasSnapshot m_rows m_lineLength m_formattedLength m_bufferLength m_limit m_next m_beginsAt m_token m_error m_errorAt m_errorPosition m_nested m_codeCount m_fam v3_4 r18 h9) mX10_parentsOf tw1515 ⟨Nat.le_of_ble_eq_true rfl, Nat.le_of_ble_eq_true rfl⟩ hP hD hS hA ⟨Nat.zero_le _, Nat.zero_le _⟩ 0 10 rfl rfl rfl (wr := []) [0, 1] [] rfl rfl rfl rfl (by decide) (As := [.int v3_4]) (rest := []) rfl hl.1 rfl (Nat.le_of_ble_eq_true rfl) dX10_personsWithout_18 (fun H locs hP hD hS => ?_)
          refine W.eq (g2 := F0 m 21 ls [.int r18]) rfl ?_
          have hP : va_P (dC, dI) vwCl [(ad 0, .inr (10, oM ad m_undoCount m_thrown m_hasSnapshot a_m_fam m_rows m_lineLength m_formattedLength m_bufferLength m_limit m_next m_beginsAt m_token m_error m_errorAt m_errorPosition m_nested m_codeCount)), (a_m_fam, .inl (cJ, 130, .inr (.inl m_fam)))] H := hP
          have hD : va_D A [(ad 0, .inr (10, oM ad m_undoCount m_thrown m_hasSnapshot a_m_fam m_rows m_lineLength m_formattedLength m_bufferLength m_limit m_next m_beginsAt m_token m_error m_errorAt m_errorPosition m_nested m_codeCount)), (a_m_fam, .inl (cJ, 130, .inr (.inl m_fam)))] := hD
          refine lv_iconst (v := -1) hx hb dX10_personsWithout_21 (by decide) ?_
          refine lv_icmp_ne (tgt := 29) hx hb dX10_personsWithout_22 (by decide) (fun h9 => ?_) (fun h9 => ?_)
          · have hf := itf h9 hf
            refine lv_iconst (v := 0) hx hb dX10_personsWithout_29 (by decide) ?_
            refine lv_goto (tgt := 46) hx hb dX10_personsWithout_30 (by decide) ?_
            refine lv_istore (lv' := [(4, .int (0 : Int32)), (0, .ref (ad 0)), (1, .int (bI v1)), (2, .int v2_4), (3, .int v3_4)]) hx hb dX10_personsWithout_46 hl (by decide) rfl (fun ls hl => ?_)
            exact J48 false H locs ls hf hP hD hS (lv_sub hl [1, 2, 3, 4, 0] rfl)
          · have hf := itt h9 hf
            refine lv_iconst (v := 1) hx hb dX10_personsWithout_25 (by decide) ?_
            refine lv_goto (tgt := 46) hx hb dX10_personsWithout_26 (by decide) ?_
            refine lv_istore (lv' := [(4, .int (1 : Int32)), (0, .ref (ad 0)), (1, .int (bI v1)), (2, .int v2_4), (3, .int v3_4)]) hx hb dX10_personsWithout_46 hl (by decide) rfl (fun ls hl => ?_)
            exact J48 true H locs ls hf hP hD hS (lv_sub hl [1, 2, 3, 4, 0] rfl)
  obtain ⟨ex, h9, hf⟩ := ob_s hf
  exact K4 FU (0 : Int32) (0 : Int32) ex H locs ls h9 hf hP hD hS (lv_sub hl [2, 3, 1, 0] rfl)
set_option maxHeartbeats 4000000 in
set_option maxRecDepth 100000 in
theorem c_X10_unionsOf (ad : Nat → Nat) (a_m_fam : Nat) (m_undoCount : Int32) (m_thrown : Int32) (m_hasSnapshot : Bool) (m_rows : Int32) (m_lineLength : Int32) (m_formattedLength : Int32) (m_bufferLength : Int32) (m_limit : Int32) (m_next : Int32) (m_beginsAt : Int32) (m_token : Int32) (m_error : Int32) (m_errorAt : Int32) (m_errorPosition : Int32) (m_nested : Int32) (m_codeCount : Int32) (m_fam : Nat → Int64) (v1 : Int32) (r9 : Int32) (hf : p10_unionsOf m_fam v1 = some r9) : gM l dC dI cI cJ cZ yX10_unionsOf cX10_unionsOf 4 (some .int) (2) (44) [.ref (ad 0), .int v1] [(ad 0, .inr (10, oM ad m_undoCount m_thrown m_hasSnapshot a_m_fam m_rows m_lineLength m_formattedLength m_bufferLength m_limit m_next m_beginsAt m_token m_error m_errorAt m_errorPosition m_nested m_codeCount)), (a_m_fam, .inl (cJ, 130, .inr (.inl m_fam)))] [(ad 0, .inr (10, oM ad m_undoCount m_thrown m_hasSnapshot a_m_fam m_rows m_lineLength m_formattedLength m_bufferLength m_limit m_next m_beginsAt m_token m_error m_errorAt m_errorPosition m_nested m_codeCount)), (a_m_fam, .inl (cJ, 130, .inr (.inl m_fam)))] (some (.int r9)) := by
  refine g_start (own := RX10) (by decide +kernel) rfl (Nat.le_of_ble_eq_true rfl) ?_
  intro p e s m below meth c A ls S hr hlocks hE hP hD hS hA hl hin
  have hx := S.1
  have hb := S.2.1
  have hml := S.2.2.1
  have hown := S.2.2.2.1
  have htg : ∀ z ∈ gw, z.before ([.ref (ad 0), .int v1] : List Value).toArray s = true := fun w h => S.2.2.2.2 w (List.mem_cons_of_mem _ h)
  have hl : lv_has ls 4 [(0, .ref (ad 0)), (1, .int v1)] := hl
  have hS0 := hS
  obtain ⟨H, hH⟩ : ∃ H, H = s.heap := ⟨_, rfl⟩
  obtain ⟨locs, hlc⟩ : ∃ locs : List Loc, locs = [] := ⟨_, rfl⟩
  have hS : va_S A s.heap H locs := by rw [hH, hlc]; exact hS0
  have hP : va_P (dC, dI) vwCl [(ad 0, .inr (10, oM ad m_undoCount m_thrown m_hasSnapshot a_m_fam m_rows m_lineLength m_formattedLength m_bufferLength m_limit m_next m_beginsAt m_token m_error m_errorAt m_errorPosition m_nested m_codeCount)), (a_m_fam, .inl (cJ, 130, .inr (.inl m_fam)))] H := by rw [hH]; exact hP
  suffices hgo : W p l e ({ frames := 2, cells := 0, slots := 0, locals := 44 }) s m ([.ref (ad 0), .int v1] : List Value).toArray below meth c H locs 0 0 (MQ below (gQ dC dI (some (.int r9)) A [(ad 0, .inr (10, oM ad m_undoCount m_thrown m_hasSnapshot a_m_fam m_rows m_lineLength m_formattedLength m_bufferLength m_limit m_next m_beginsAt m_token m_error m_errorAt m_errorPosition m_nested m_codeCount)), (a_m_fam, .inl (cJ, 130, .inr (.inl m_fam)))]) ([.ref (ad 0), .int v1] : List Value).toArray s 0 0 A) (F0 m 0 ls []) by rw [hH, hlc] at hgo; exact hgo
  rw [p10_unionsOf] at hf
  have J35 : ∀ (v2_35 : Int32) (H : Heap) (locs : List Loc) (ls : Array Slot), p10_unionsOf_J35 v2_35 = some r9 → va_P (dC, dI) vwCl [(ad 0, .inr (10, oM ad m_undoCount m_thrown m_hasSnapshot a_m_fam m_rows m_lineLength m_formattedLength m_bufferLength m_limit m_next m_beginsAt m_token m_error m_errorAt m_errorPosition m_nested m_codeCount)), (a_m_fam, .inl (cJ, 130, .inr (.inl m_fam)))] H → va_D A [(ad 0, .inr (10, oM ad m_undoCount m_thrown m_hasSnapshot a_m_fam m_rows m_lineLength m_formattedLength m_bufferLength m_limit m_next m_beginsAt m_token m_error m_errorAt m_errorPosition m_nested m_codeCount)), (a_m_fam, .inl (cJ, 130, .inr (.inl m_fam)))] → va_S A s.heap H locs → lv_has ls 4 [(2, .int v2_35)] → W p l e ({ frames := 2, cells := 0, slots := 0, locals := 44 }) s m ([.ref (ad 0), .int v1] : List Value).toArray below meth c H locs 0 0 (MQ below (gQ dC dI (some (.int r9)) A [(ad 0, .inr (10, oM ad m_undoCount m_thrown m_hasSnapshot a_m_fam m_rows m_lineLength m_formattedLength m_bufferLength m_limit m_next m_beginsAt m_token m_error m_errorAt m_errorPosition m_nested m_codeCount)), (a_m_fam, .inl (cJ, 130, .inr (.inl m_fam)))]) ([.ref (ad 0), .int v1] : List Value).toArray s 0 0 A) (F0 m 35 ls []) := by
    intro v2_35 H locs ls hf hP hD hS hl
    rw [p10_unionsOf_J35] at hf
    refine lv_iload_n hx hb dX10_unionsOf_35 rfl (lv_at hl 0 rfl) ?_
    cases hf
    exact g_iret S hr hlocks hP hD hS dX10_unionsOf_36
  refine lv_iconst (v := 0) hx hb dX10_unionsOf_0 (by decide) ?_
  refine lv_istore_n (lv' := [(2, .int (0 : Int32)), (0, .ref (ad 0)), (1, .int v1)]) hx hb dX10_unionsOf_1 rfl hl (by decide) rfl (fun ls hl => ?_)
  refine lv_iconst (v := 0) hx hb dX10_unionsOf_2 (by decide) ?_
  refine lv_istore_n (lv' := [(3, .int (0 : Int32)), (2, .int (0 : Int32)), (0, .ref (ad 0)), (1, .int v1)]) hx hb dX10_unionsOf_3 rfl hl (by decide) rfl (fun ls hl => ?_)
  have K4 : ∀ (n4 : Nat) (v2_4 : Int32) (v3_4 : Int32) (ex4 : Int32) (H : Heap) (locs : List Loc) (ls : Array Slot), p10_unionsOf_L4 m_fam v1 n4 v2_4 v3_4 = some ex4 → (fun v2_x4 => p10_unionsOf_J35 v2_x4) ex4 = some r9 → va_P (dC, dI) vwCl [(ad 0, .inr (10, oM ad m_undoCount m_thrown m_hasSnapshot a_m_fam m_rows m_lineLength m_formattedLength m_bufferLength m_limit m_next m_beginsAt m_token m_error m_errorAt m_errorPosition m_nested m_codeCount)), (a_m_fam, .inl (cJ, 130, .inr (.inl m_fam)))] H → va_D A [(ad 0, .inr (10, oM ad m_undoCount m_thrown m_hasSnapshot a_m_fam m_rows m_lineLength m_formattedLength m_bufferLength m_limit m_next m_beginsAt m_token m_error m_errorAt m_errorPosition m_nested m_codeCount)), (a_m_fam, .inl (cJ, 130, .inr (.inl m_fam)))] → va_S A s.heap H locs → lv_has ls 4 [(0, .ref (ad 0)), (1, .int v1), (2, .int v2_4), (3, .int v3_4)] → W p l e ({ frames := 2, cells := 0, slots := 0, locals := 44 }) s m ([.ref (ad 0), .int v1] : List Value).toArray below meth c H locs 0 0 (MQ below (gQ dC dI (some (.int r9)) A [(ad 0, .inr (10, oM ad m_undoCount m_thrown m_hasSnapshot a_m_fam m_rows m_lineLength m_formattedLength m_bufferLength m_limit m_next m_beginsAt m_token m_error m_errorAt m_errorPosition m_nested m_codeCount)), (a_m_fam, .inl (cJ, 130, .inr (.inl m_fam)))]) ([.ref (ad 0), .int v1] : List Value).toArray s 0 0 A) (F0 m 4 ls []) := by
    intro n4
    induction n4 with
    | zero => intro v2_4 v3_4 ex4 H locs ls hf; rw [p10_unionsOf_L4] at hf; cases hf
    | succ n4 ih4 =>
      intro v2_4 v3_4 ex4 H locs ls hf hk4 hP hD hS hl
      rw [p10_unionsOf_L4, p10_unionsOf_L4_B] at hf
      refine lv_iload_n hx hb dX10_unionsOf_4 rfl (lv_at hl 3 rfl) ?_
      refine lv_aload_n hx hb dX10_unionsOf_5 rfl (lv_at hl 0 rfl) ?_
      obtain ⟨r6, h9, hf⟩ := ob_s hf
      refine gcV (index := 110) S hE (c_X10_unions ad a_m_fam m_undoCount m_thrown m_hasSnapshot m_rows m_lineLength m_formattedLength m_bufferLength m_limit m_next m_beginsAt m_token m_error m_errorAt m_errorPosition m_nested m_codeCount m_fam r6 h9) mX10_unions tw1532 ⟨Nat.le_of_ble_eq_true rfl, Nat.le_of_ble_eq_true rfl⟩ hP hD hS hA ⟨Nat.zero_le _, Nat.zero_le _⟩ 0 10 rfl rfl rfl (wr := []) [0, 1] [] rfl rfl rfl rfl (by decide) (As := []) (rest := [.int v3_4]) rfl hl.1 rfl (Nat.le_of_ble_eq_true rfl) dX10_unionsOf_6 (fun H locs hP hD hS => ?_)
      refine W.eq (g2 := F0 m 9 ls [.int r6, .int v3_4]) rfl ?_
      have hP : va_P (dC, dI) vwCl [(ad 0, .inr (10, oM ad m_undoCount m_thrown m_hasSnapshot a_m_fam m_rows m_lineLength m_formattedLength m_bufferLength m_limit m_next m_beginsAt m_token m_error m_errorAt m_errorPosition m_nested m_codeCount)), (a_m_fam, .inl (cJ, 130, .inr (.inl m_fam)))] H := hP
      have hD : va_D A [(ad 0, .inr (10, oM ad m_undoCount m_thrown m_hasSnapshot a_m_fam m_rows m_lineLength m_formattedLength m_bufferLength m_limit m_next m_beginsAt m_token m_error m_errorAt m_errorPosition m_nested m_codeCount)), (a_m_fam, .inl (cJ, 130, .inr (.inl m_fam)))] := hD
      refine lv_icmp_ge (tgt := 35) hx hb dX10_unionsOf_9 (by decide) (fun h9 => ?_) (fun h9 => ?_)
      · have hf := itt h9 hf
        cases hf
        have hf := hk4
        exact J35 v2_4 H locs ls hf hP hD hS (lv_sub hl [2] rfl)
      · have hf := itf h9 hf
        refine lv_iload_n hx hb dX10_unionsOf_12 rfl (lv_at hl 2 rfl) ?_
        refine lv_aload_n hx hb dX10_unionsOf_13 rfl (lv_at hl 0 rfl) ?_
        refine lv_iload_n hx hb dX10_unionsOf_14 rfl (lv_at hl 3 rfl) ?_
        refine lv_iload_n hx hb dX10_unionsOf_15 rfl (lv_at hl 1 rfl) ?_
        obtain ⟨r16, h9, hf⟩ := ob_s hf
        refine gcV (index := 113) S hE (c_X10_isPartner ad a_m_fam m_undoCount m_thrown m_hasSnapshot m_rows m_lineLength m_formattedLength m_bufferLength m_limit m_next m_beginsAt m_token m_error m_errorAt m_errorPosition m_nested m_codeCount m_fam v3_4 v1 r16 h9) mX10_isPartner tw1564 ⟨Nat.le_of_ble_eq_true rfl, Nat.le_of_ble_eq_true rfl⟩ hP hD hS hA ⟨Nat.zero_le _, Nat.zero_le _⟩ 0 10 rfl rfl rfl (wr := []) [0, 1] [] rfl rfl rfl rfl (by decide) (As := [.int v3_4, .int v1]) (rest := [.int v2_4]) rfl hl.1 rfl (Nat.le_of_ble_eq_true rfl) dX10_unionsOf_16 (fun H locs hP hD hS => ?_)
        refine W.eq (g2 := F0 m 19 ls [.int (bI r16), .int v2_4]) rfl ?_
        have hP : va_P (dC, dI) vwCl [(ad 0, .inr (10, oM ad m_undoCount m_thrown m_hasSnapshot a_m_fam m_rows m_lineLength m_formattedLength m_bufferLength m_limit m_next m_beginsAt m_token m_error m_errorAt m_errorPosition m_nested m_codeCount)), (a_m_fam, .inl (cJ, 130, .inr (.inl m_fam)))] H := hP
        have hD : va_D A [(ad 0, .inr (10, oM ad m_undoCount m_thrown m_hasSnapshot a_m_fam m_rows m_lineLength m_formattedLength m_bufferLength m_limit m_next m_beginsAt m_token m_error m_errorAt m_errorPosition m_nested m_codeCount)), (a_m_fam, .inl (cJ, 130, .inr (.inl m_fam)))] := hD
        refine lv_if_eq (tgt := 26) hx hb dX10_unionsOf_19 (by decide) (fun h9 => ?_) (fun h9 => ?_)
        · have hf := ctf (bI_0 h9) hf
          refine lv_iconst (v := 0) hx hb dX10_unionsOf_26 (by decide) ?_
          refine lv_iadd hx hb dX10_unionsOf_27 ?_
          refine lv_topi (fun t28 h9 => ?_)
          have hf := lb_e h9 hf
          refine lv_istore_n (lv' := [(2, .int t28), (0, .ref (ad 0)), (1, .int v1), (3, .int v3_4)]) hx hb dX10_unionsOf_28 rfl hl (by decide) rfl (fun ls hl => ?_)
          obtain ⟨t29, h9⟩ : ∃ z : Int32, z = (v3_4 + (1 : Int32)) := ⟨_, rfl⟩
          have hf := lb_e h9 hf
          refine lv_iinc (v := t29) (lv' := [(3, .int t29), (2, .int t28), (0, .ref (ad 0)), (1, .int v1)]) hx hb dX10_unionsOf_29 hl (k := 3) rfl (by rw [h9]; rfl) (by decide) rfl (fun ls hl => ?_)
          refine lv_goto (tgt := 4) hx hb dX10_unionsOf_32 (by decide) ?_
          exact ih4 t28 t29 ex4 H locs ls hf hk4 hP hD hS (lv_sub hl [2, 3, 1, 0] rfl)
        · have hf := ctt (bI_1 h9) hf
          refine lv_iconst (v := 1) hx hb dX10_unionsOf_22 (by decide) ?_
          refine lv_goto (tgt := 27) hx hb dX10_unionsOf_23 (by decide) ?_
          refine lv_iadd hx hb dX10_unionsOf_27 ?_
          refine lv_topi (fun t28 h9 => ?_)
          have hf := lb_e h9 hf
          refine lv_istore_n (lv' := [(2, .int t28), (0, .ref (ad 0)), (1, .int v1), (3, .int v3_4)]) hx hb dX10_unionsOf_28 rfl hl (by decide) rfl (fun ls hl => ?_)
          obtain ⟨t29, h9⟩ : ∃ z : Int32, z = (v3_4 + (1 : Int32)) := ⟨_, rfl⟩
          have hf := lb_e h9 hf
          refine lv_iinc (v := t29) (lv' := [(3, .int t29), (2, .int t28), (0, .ref (ad 0)), (1, .int v1)]) hx hb dX10_unionsOf_29 hl (k := 3) rfl (by rw [h9]; rfl) (by decide) rfl (fun ls hl => ?_)
          refine lv_goto (tgt := 4) hx hb dX10_unionsOf_32 (by decide) ?_
          exact ih4 t28 t29 ex4 H locs ls hf hk4 hP hD hS (lv_sub hl [2, 3, 1, 0] rfl)
  obtain ⟨ex, h9, hf⟩ := ob_s hf
  exact K4 FU (0 : Int32) (0 : Int32) ex H locs ls h9 hf hP hD hS (lv_sub hl [2, 3, 1, 0] rfl)
set_option maxHeartbeats 4000000 in
set_option maxRecDepth 100000 in
theorem c_X10_children (ad : Nat → Nat) (a_m_fam : Nat) (m_undoCount : Int32) (m_thrown : Int32) (m_hasSnapshot : Bool) (m_rows : Int32) (m_lineLength : Int32) (m_formattedLength : Int32) (m_bufferLength : Int32) (m_limit : Int32) (m_next : Int32) (m_beginsAt : Int32) (m_token : Int32) (m_error : Int32) (m_errorAt : Int32) (m_errorPosition : Int32) (m_nested : Int32) (m_codeCount : Int32) (m_fam : Nat → Int64) (v1 : Int32) (r9 : Int32) (m_thrown_9 : Int32) (hf : p10_children m_fam v1 = some (r9, m_thrown_9)) : gM l dC dI cI cJ cZ yX10_children cX10_children 2 (some .int) (3) (66) [.ref (ad 0), .int v1] [(ad 0, .inr (10, oM ad m_undoCount m_thrown m_hasSnapshot a_m_fam m_rows m_lineLength m_formattedLength m_bufferLength m_limit m_next m_beginsAt m_token m_error m_errorAt m_errorPosition m_nested m_codeCount)), (a_m_fam, .inl (cJ, 130, .inr (.inl m_fam)))] [(ad 0, .inr (10, oM ad m_undoCount m_thrown_9 m_hasSnapshot a_m_fam m_rows m_lineLength m_formattedLength m_bufferLength m_limit m_next m_beginsAt m_token m_error m_errorAt m_errorPosition m_nested m_codeCount)), (a_m_fam, .inl (cJ, 130, .inr (.inl m_fam)))] (some (.int r9)) := by
  refine g_start (own := RX10) (by decide +kernel) rfl (Nat.le_of_ble_eq_true rfl) ?_
  intro p e s m below meth c A ls S hr hlocks hE hP hD hS hA hl hin
  have hx := S.1
  have hb := S.2.1
  have hml := S.2.2.1
  have hown := S.2.2.2.1
  have htg : ∀ z ∈ gw, z.before ([.ref (ad 0), .int v1] : List Value).toArray s = true := fun w h => S.2.2.2.2 w (List.mem_cons_of_mem _ h)
  have hl : lv_has ls 2 [(0, .ref (ad 0)), (1, .int v1)] := hl
  have hS0 := hS
  obtain ⟨H, hH⟩ : ∃ H, H = s.heap := ⟨_, rfl⟩
  obtain ⟨locs, hlc⟩ : ∃ locs : List Loc, locs = [] := ⟨_, rfl⟩
  have hS : va_S A s.heap H locs := by rw [hH, hlc]; exact hS0
  have hP : va_P (dC, dI) vwCl [(ad 0, .inr (10, oM ad m_undoCount m_thrown m_hasSnapshot a_m_fam m_rows m_lineLength m_formattedLength m_bufferLength m_limit m_next m_beginsAt m_token m_error m_errorAt m_errorPosition m_nested m_codeCount)), (a_m_fam, .inl (cJ, 130, .inr (.inl m_fam)))] H := by rw [hH]; exact hP
  suffices hgo : W p l e ({ frames := 3, cells := 0, slots := 0, locals := 66 }) s m ([.ref (ad 0), .int v1] : List Value).toArray below meth c H locs 0 0 (MQ below (gQ dC dI (some (.int r9)) A [(ad 0, .inr (10, oM ad m_undoCount m_thrown_9 m_hasSnapshot a_m_fam m_rows m_lineLength m_formattedLength m_bufferLength m_limit m_next m_beginsAt m_token m_error m_errorAt m_errorPosition m_nested m_codeCount)), (a_m_fam, .inl (cJ, 130, .inr (.inl m_fam)))]) ([.ref (ad 0), .int v1] : List Value).toArray s 0 0 A) (F0 m 0 ls []) by rw [hH, hlc] at hgo; exact hgo
  rw [p10_children] at hf
  refine lv_aload_n hx hb dX10_children_0 rfl (lv_at hl 0 rfl) ?_
  refine lv_iconst (v := 0) hx hb dX10_children_1 (by decide) ?_
  refine va_put (D := (dC, dI)) (ci := 10) (v := .int (0 : Int32)) (ty := .int) (C := RX10) (T := TX10) (N := 37) hx hb htg inX10 tyX10 tyX10_ok nmX10 hown hE.1 hP hD hS 0 rfl rfl 5 (by decide) (htg _ tw1387) (fun _ h9 => h9) rfl (by decide +kernel) rfl rfl (Nat.le_of_ble_eq_true rfl) dX10_children_2 (fun H locs hP hD hS => ?_)
  have hP : va_P (dC, dI) vwCl [(ad 0, .inr (10, oM ad m_undoCount (0 : Int32) m_hasSnapshot a_m_fam m_rows m_lineLength m_formattedLength m_bufferLength m_limit m_next m_beginsAt m_token m_error m_errorAt m_errorPosition m_nested m_codeCount)), (a_m_fam, .inl (cJ, 130, .inr (.inl m_fam)))] H := hP
  have hD : va_D A [(ad 0, .inr (10, oM ad m_undoCount (0 : Int32) m_hasSnapshot a_m_fam m_rows m_lineLength m_formattedLength m_bufferLength m_limit m_next m_beginsAt m_token m_error m_errorAt m_errorPosition m_nested m_codeCount)), (a_m_fam, .inl (cJ, 130, .inr (.inl m_fam)))] := hD
  refine lv_aload_n hx hb dX10_children_5 rfl (lv_at hl 0 rfl) ?_
  refine lv_iload_n hx hb dX10_children_6 rfl (lv_at hl 1 rfl) ?_
  obtain ⟨r7, h9, hf⟩ := ob_s hf
  refine gcV (index := 246) S hE (c_X10_isUnion ad a_m_fam m_undoCount (0 : Int32) m_hasSnapshot m_rows m_lineLength m_formattedLength m_bufferLength m_limit m_next m_beginsAt m_token m_error m_errorAt m_errorPosition m_nested m_codeCount m_fam v1 r7 h9) mX10_isUnion tw1596 ⟨Nat.le_of_ble_eq_true rfl, Nat.le_of_ble_eq_true rfl⟩ hP hD hS hA ⟨Nat.zero_le _, Nat.zero_le _⟩ 0 10 rfl rfl rfl (wr := []) [0, 1] [] rfl rfl rfl rfl (by decide) (As := [.int v1]) (rest := []) rfl hl.1 rfl (Nat.le_of_ble_eq_true rfl) dX10_children_7 (fun H locs hP hD hS => ?_)
  refine W.eq (g2 := F0 m 10 ls [.int (bI r7)]) rfl ?_
  have hP : va_P (dC, dI) vwCl [(ad 0, .inr (10, oM ad m_undoCount (0 : Int32) m_hasSnapshot a_m_fam m_rows m_lineLength m_formattedLength m_bufferLength m_limit m_next m_beginsAt m_token m_error m_errorAt m_errorPosition m_nested m_codeCount)), (a_m_fam, .inl (cJ, 130, .inr (.inl m_fam)))] H := hP
  have hD : va_D A [(ad 0, .inr (10, oM ad m_undoCount (0 : Int32) m_hasSnapshot a_m_fam m_rows m_lineLength m_formattedLength m_bufferLength m_limit m_next m_beginsAt m_token m_error m_errorAt m_errorPosition m_nested m_codeCount)), (a_m_fam, .inl (cJ, 130, .inr (.inl m_fam)))] := hD
  refine lv_if_eq (tgt := 21) hx hb dX10_children_10 (by decide) (fun h9 => ?_) (fun h9 => ?_)
  · have hf := ctf (bI_0 h9) hf
    refine lv_aload_n hx hb dX10_children_21 rfl (lv_at hl 0 rfl) ?_
    refine lv_iconst (v := 1) hx hb dX10_children_22 (by decide) ?_
    obtain ⟨r23, m_thrown_23, h9⟩ : ∃ r23 m_thrown_23, p10_raise (1 : Int32) = (r23, m_thrown_23) := ⟨_, _, rfl⟩
    have hf := uc2_e (lb_e h9.symm hf)
    refine gcV (index := 240) S hE (c_X10_raise ad a_m_fam m_undoCount (0 : Int32) m_hasSnapshot m_rows m_lineLength m_formattedLength m_bufferLength m_limit m_next m_beginsAt m_token m_error m_errorAt m_errorPosition m_nested m_codeCount (1 : Int32) r23 m_thrown_23 h9) mX10_raise tw1584 ⟨Nat.le_of_ble_eq_true rfl, Nat.le_of_ble_eq_true rfl⟩ hP hD hS hA ⟨Nat.zero_le _, Nat.zero_le _⟩ 0 10 rfl rfl rfl (wr := [(a_m_fam, .inl (cJ, 130, .inr (.inl m_fam)))]) [0] [1] rfl rfl rfl rfl (by decide) (As := [.int (1 : Int32)]) (rest := []) rfl hl.1 rfl (Nat.le_of_ble_eq_true rfl) dX10_children_23 (fun H locs hP hD hS => ?_)
    refine W.eq (g2 := F0 m 26 ls [.int r23]) rfl ?_
    have hP : va_P (dC, dI) vwCl [(a_m_fam, .inl (cJ, 130, .inr (.inl m_fam))), (ad 0, .inr (10, oM ad m_undoCount m_thrown_23 m_hasSnapshot a_m_fam m_rows m_lineLength m_formattedLength m_bufferLength m_limit m_next m_beginsAt m_token m_error m_errorAt m_errorPosition m_nested m_codeCount))] H := hP
    have hD : va_D A [(a_m_fam, .inl (cJ, 130, .inr (.inl m_fam))), (ad 0, .inr (10, oM ad m_undoCount m_thrown_23 m_hasSnapshot a_m_fam m_rows m_lineLength m_formattedLength m_bufferLength m_limit m_next m_beginsAt m_token m_error m_errorAt m_errorPosition m_nested m_codeCount))] := hD
    cases hf
    exact g_iret S hr hlocks (hP.sub [1, 0] rfl) (hD.sub [1, 0] (by decide) rfl) hS dX10_children_26
  · have hf := ctt (bI_1 h9) hf
    refine lv_aload_n hx hb dX10_children_13 rfl (lv_at hl 0 rfl) ?_
    refine lv_iload_n hx hb dX10_children_14 rfl (lv_at hl 1 rfl) ?_
    obtain ⟨r15, h9, hf⟩ := ob_s hf
    refine gcV (index := 221) S hE (c_X10_childMask ad a_m_fam m_undoCount (0 : Int32) m_hasSnapshot m_rows m_lineLength m_formattedLength m_bufferLength m_limit m_next m_beginsAt m_token m_error m_errorAt m_errorPosition m_nested m_codeCount m_fam v1 r15 h9) mX10_childMask tw1568 ⟨Nat.le_of_ble_eq_true rfl, Nat.le_of_ble_eq_true rfl⟩ hP hD hS hA ⟨Nat.zero_le _, Nat.zero_le _⟩ 0 10 rfl rfl rfl (wr := []) [0, 1] [] rfl rfl rfl rfl (by decide) (As := [.int v1]) (rest := []) rfl hl.1 rfl (Nat.le_of_ble_eq_true rfl) dX10_children_15 (fun H locs hP hD hS => ?_)
    refine W.eq (g2 := F0 m 18 ls [.int r15]) rfl ?_
    have hP : va_P (dC, dI) vwCl [(ad 0, .inr (10, oM ad m_undoCount (0 : Int32) m_hasSnapshot a_m_fam m_rows m_lineLength m_formattedLength m_bufferLength m_limit m_next m_beginsAt m_token m_error m_errorAt m_errorPosition m_nested m_codeCount)), (a_m_fam, .inl (cJ, 130, .inr (.inl m_fam)))] H := hP
    have hD : va_D A [(ad 0, .inr (10, oM ad m_undoCount (0 : Int32) m_hasSnapshot a_m_fam m_rows m_lineLength m_formattedLength m_bufferLength m_limit m_next m_beginsAt m_token m_error m_errorAt m_errorPosition m_nested m_codeCount)), (a_m_fam, .inl (cJ, 130, .inr (.inl m_fam)))] := hD
    refine lv_goto (tgt := 26) hx hb dX10_children_18 (by decide) ?_
    cases hf
    exact g_iret S hr hlocks hP hD hS dX10_children_26
set_option maxHeartbeats 4000000 in
set_option maxRecDepth 100000 in
theorem c_X10_ancestors (ad : Nat → Nat) (a_m_fam : Nat) (m_undoCount : Int32) (m_thrown : Int32) (m_hasSnapshot : Bool) (m_rows : Int32) (m_lineLength : Int32) (m_formattedLength : Int32) (m_bufferLength : Int32) (m_limit : Int32) (m_next : Int32) (m_beginsAt : Int32) (m_token : Int32) (m_error : Int32) (m_errorAt : Int32) (m_errorPosition : Int32) (m_nested : Int32) (m_codeCount : Int32) (m_fam : Nat → Int64) (v1 : Int32) (r9 : Int32) (m_thrown_9 : Int32) (hf : p10_ancestors m_fam v1 = some (r9, m_thrown_9)) : gM l dC dI cI cJ cZ yX10_ancestors cX10_ancestors 2 (some .int) (3) (70) [.ref (ad 0), .int v1] [(ad 0, .inr (10, oM ad m_undoCount m_thrown m_hasSnapshot a_m_fam m_rows m_lineLength m_formattedLength m_bufferLength m_limit m_next m_beginsAt m_token m_error m_errorAt m_errorPosition m_nested m_codeCount)), (a_m_fam, .inl (cJ, 130, .inr (.inl m_fam)))] [(ad 0, .inr (10, oM ad m_undoCount m_thrown_9 m_hasSnapshot a_m_fam m_rows m_lineLength m_formattedLength m_bufferLength m_limit m_next m_beginsAt m_token m_error m_errorAt m_errorPosition m_nested m_codeCount)), (a_m_fam, .inl (cJ, 130, .inr (.inl m_fam)))] (some (.int r9)) := by
  refine g_start (own := RX10) (by decide +kernel) rfl (Nat.le_of_ble_eq_true rfl) ?_
  intro p e s m below meth c A ls S hr hlocks hE hP hD hS hA hl hin
  have hx := S.1
  have hb := S.2.1
  have hml := S.2.2.1
  have hown := S.2.2.2.1
  have htg : ∀ z ∈ gw, z.before ([.ref (ad 0), .int v1] : List Value).toArray s = true := fun w h => S.2.2.2.2 w (List.mem_cons_of_mem _ h)
  have hl : lv_has ls 2 [(0, .ref (ad 0)), (1, .int v1)] := hl
  have hS0 := hS
  obtain ⟨H, hH⟩ : ∃ H, H = s.heap := ⟨_, rfl⟩
  obtain ⟨locs, hlc⟩ : ∃ locs : List Loc, locs = [] := ⟨_, rfl⟩
  have hS : va_S A s.heap H locs := by rw [hH, hlc]; exact hS0
  have hP : va_P (dC, dI) vwCl [(ad 0, .inr (10, oM ad m_undoCount m_thrown m_hasSnapshot a_m_fam m_rows m_lineLength m_formattedLength m_bufferLength m_limit m_next m_beginsAt m_token m_error m_errorAt m_errorPosition m_nested m_codeCount)), (a_m_fam, .inl (cJ, 130, .inr (.inl m_fam)))] H := by rw [hH]; exact hP
  suffices hgo : W p l e ({ frames := 3, cells := 0, slots := 0, locals := 70 }) s m ([.ref (ad 0), .int v1] : List Value).toArray below meth c H locs 0 0 (MQ below (gQ dC dI (some (.int r9)) A [(ad 0, .inr (10, oM ad m_undoCount m_thrown_9 m_hasSnapshot a_m_fam m_rows m_lineLength m_formattedLength m_bufferLength m_limit m_next m_beginsAt m_token m_error m_errorAt m_errorPosition m_nested m_codeCount)), (a_m_fam, .inl (cJ, 130, .inr (.inl m_fam)))]) ([.ref (ad 0), .int v1] : List Value).toArray s 0 0 A) (F0 m 0 ls []) by rw [hH, hlc] at hgo; exact hgo
  rw [p10_ancestors] at hf
  refine lv_aload_n hx hb dX10_ancestors_0 rfl (lv_at hl 0 rfl) ?_
  refine lv_iconst (v := 0) hx hb dX10_ancestors_1 (by decide) ?_
  refine va_put (D := (dC, dI)) (ci := 10) (v := .int (0 : Int32)) (ty := .int) (C := RX10) (T := TX10) (N := 37) hx hb htg inX10 tyX10 tyX10_ok nmX10 hown hE.1 hP hD hS 0 rfl rfl 5 (by decide) (htg _ tw1387) (fun _ h9 => h9) rfl (by decide +kernel) rfl rfl (Nat.le_of_ble_eq_true rfl) dX10_ancestors_2 (fun H locs hP hD hS => ?_)
  have hP : va_P (dC, dI) vwCl [(ad 0, .inr (10, oM ad m_undoCount (0 : Int32) m_hasSnapshot a_m_fam m_rows m_lineLength m_formattedLength m_bufferLength m_limit m_next m_beginsAt m_token m_error m_errorAt m_errorPosition m_nested m_codeCount)), (a_m_fam, .inl (cJ, 130, .inr (.inl m_fam)))] H := hP
  have hD : va_D A [(ad 0, .inr (10, oM ad m_undoCount (0 : Int32) m_hasSnapshot a_m_fam m_rows m_lineLength m_formattedLength m_bufferLength m_limit m_next m_beginsAt m_token m_error m_errorAt m_errorPosition m_nested m_codeCount)), (a_m_fam, .inl (cJ, 130, .inr (.inl m_fam)))] := hD
  refine lv_aload_n hx hb dX10_ancestors_5 rfl (lv_at hl 0 rfl) ?_
  refine lv_iload_n hx hb dX10_ancestors_6 rfl (lv_at hl 1 rfl) ?_
  obtain ⟨r7, h9, hf⟩ := ob_s hf
  refine gcV (index := 234) S hE (c_X10_isPerson ad a_m_fam m_undoCount (0 : Int32) m_hasSnapshot m_rows m_lineLength m_formattedLength m_bufferLength m_limit m_next m_beginsAt m_token m_error m_errorAt m_errorPosition m_nested m_codeCount m_fam v1 r7 h9) mX10_isPerson tw1576 ⟨Nat.le_of_ble_eq_true rfl, Nat.le_of_ble_eq_true rfl⟩ hP hD hS hA ⟨Nat.zero_le _, Nat.zero_le _⟩ 0 10 rfl rfl rfl (wr := []) [0, 1] [] rfl rfl rfl rfl (by decide) (As := [.int v1]) (rest := []) rfl hl.1 rfl (Nat.le_of_ble_eq_true rfl) dX10_ancestors_7 (fun H locs hP hD hS => ?_)
  refine W.eq (g2 := F0 m 10 ls [.int (bI r7)]) rfl ?_
  have hP : va_P (dC, dI) vwCl [(ad 0, .inr (10, oM ad m_undoCount (0 : Int32) m_hasSnapshot a_m_fam m_rows m_lineLength m_formattedLength m_bufferLength m_limit m_next m_beginsAt m_token m_error m_errorAt m_errorPosition m_nested m_codeCount)), (a_m_fam, .inl (cJ, 130, .inr (.inl m_fam)))] H := hP
  have hD : va_D A [(ad 0, .inr (10, oM ad m_undoCount (0 : Int32) m_hasSnapshot a_m_fam m_rows m_lineLength m_formattedLength m_bufferLength m_limit m_next m_beginsAt m_token m_error m_errorAt m_errorPosition m_nested m_codeCount)), (a_m_fam, .inl (cJ, 130, .inr (.inl m_fam)))] := hD
  refine lv_if_eq (tgt := 21) hx hb dX10_ancestors_10 (by decide) (fun h9 => ?_) (fun h9 => ?_)
  · have hf := ctf (bI_0 h9) hf
    refine lv_aload_n hx hb dX10_ancestors_21 rfl (lv_at hl 0 rfl) ?_
    refine lv_iconst (v := 1) hx hb dX10_ancestors_22 (by decide) ?_
    obtain ⟨r23, m_thrown_23, h9⟩ : ∃ r23 m_thrown_23, p10_raise (1 : Int32) = (r23, m_thrown_23) := ⟨_, _, rfl⟩
    have hf := uc2_e (lb_e h9.symm hf)
    refine gcV (index := 240) S hE (c_X10_raise ad a_m_fam m_undoCount (0 : Int32) m_hasSnapshot m_rows m_lineLength m_formattedLength m_bufferLength m_limit m_next m_beginsAt m_token m_error m_errorAt m_errorPosition m_nested m_codeCount (1 : Int32) r23 m_thrown_23 h9) mX10_raise tw1584 ⟨Nat.le_of_ble_eq_true rfl, Nat.le_of_ble_eq_true rfl⟩ hP hD hS hA ⟨Nat.zero_le _, Nat.zero_le _⟩ 0 10 rfl rfl rfl (wr := [(a_m_fam, .inl (cJ, 130, .inr (.inl m_fam)))]) [0] [1] rfl rfl rfl rfl (by decide) (As := [.int (1 : Int32)]) (rest := []) rfl hl.1 rfl (Nat.le_of_ble_eq_true rfl) dX10_ancestors_23 (fun H locs hP hD hS => ?_)
    refine W.eq (g2 := F0 m 26 ls [.int r23]) rfl ?_
    have hP : va_P (dC, dI) vwCl [(a_m_fam, .inl (cJ, 130, .inr (.inl m_fam))), (ad 0, .inr (10, oM ad m_undoCount m_thrown_23 m_hasSnapshot a_m_fam m_rows m_lineLength m_formattedLength m_bufferLength m_limit m_next m_beginsAt m_token m_error m_errorAt m_errorPosition m_nested m_codeCount))] H := hP
    have hD : va_D A [(a_m_fam, .inl (cJ, 130, .inr (.inl m_fam))), (ad 0, .inr (10, oM ad m_undoCount m_thrown_23 m_hasSnapshot a_m_fam m_rows m_lineLength m_formattedLength m_bufferLength m_limit m_next m_beginsAt m_token m_error m_errorAt m_errorPosition m_nested m_codeCount))] := hD
    cases hf
    exact g_iret S hr hlocks (hP.sub [1, 0] rfl) (hD.sub [1, 0] (by decide) rfl) hS dX10_ancestors_26
  · have hf := ctt (bI_1 h9) hf
    refine lv_aload_n hx hb dX10_ancestors_13 rfl (lv_at hl 0 rfl) ?_
    refine lv_iload_n hx hb dX10_ancestors_14 rfl (lv_at hl 1 rfl) ?_
    obtain ⟨r15, h9, hf⟩ := ob_s hf
    refine gcV (index := 254) S hE (c_X10_ancestorMask ad a_m_fam m_undoCount (0 : Int32) m_hasSnapshot m_rows m_lineLength m_formattedLength m_bufferLength m_limit m_next m_beginsAt m_token m_error m_errorAt m_errorPosition m_nested m_codeCount m_fam v1 r15 h9) mX10_ancestorMask tw1648 ⟨Nat.le_of_ble_eq_true rfl, Nat.le_of_ble_eq_true rfl⟩ hP hD hS hA ⟨Nat.zero_le _, Nat.zero_le _⟩ 0 10 rfl rfl rfl (wr := []) [0, 1] [] rfl rfl rfl rfl (by decide) (As := [.int v1]) (rest := []) rfl hl.1 rfl (Nat.le_of_ble_eq_true rfl) dX10_ancestors_15 (fun H locs hP hD hS => ?_)
    refine W.eq (g2 := F0 m 18 ls [.int r15]) rfl ?_
    have hP : va_P (dC, dI) vwCl [(ad 0, .inr (10, oM ad m_undoCount (0 : Int32) m_hasSnapshot a_m_fam m_rows m_lineLength m_formattedLength m_bufferLength m_limit m_next m_beginsAt m_token m_error m_errorAt m_errorPosition m_nested m_codeCount)), (a_m_fam, .inl (cJ, 130, .inr (.inl m_fam)))] H := hP
    have hD : va_D A [(ad 0, .inr (10, oM ad m_undoCount (0 : Int32) m_hasSnapshot a_m_fam m_rows m_lineLength m_formattedLength m_bufferLength m_limit m_next m_beginsAt m_token m_error m_errorAt m_errorPosition m_nested m_codeCount)), (a_m_fam, .inl (cJ, 130, .inr (.inl m_fam)))] := hD
    refine lv_goto (tgt := 26) hx hb dX10_ancestors_18 (by decide) ?_
    cases hf
    exact g_iret S hr hlocks hP hD hS dX10_ancestors_26
set_option maxHeartbeats 4000000 in
set_option maxRecDepth 100000 in
theorem c_X10_descendantMask (ad : Nat → Nat) (a_m_fam : Nat) (m_undoCount : Int32) (m_thrown : Int32) (m_hasSnapshot : Bool) (m_rows : Int32) (m_lineLength : Int32) (m_formattedLength : Int32) (m_bufferLength : Int32) (m_limit : Int32) (m_next : Int32) (m_beginsAt : Int32) (m_token : Int32) (m_error : Int32) (m_errorAt : Int32) (m_errorPosition : Int32) (m_nested : Int32) (m_codeCount : Int32) (m_fam : Nat → Int64) (v1 : Int32) (r9 : Int32) (hf : p10_descendantMask m_fam v1 = some r9) : gM l dC dI cI cJ cZ yX10_descendantMask cX10_descendantMask 4 (some .int) (3) (70) [.ref (ad 0), .int v1] [(ad 0, .inr (10, oM ad m_undoCount m_thrown m_hasSnapshot a_m_fam m_rows m_lineLength m_formattedLength m_bufferLength m_limit m_next m_beginsAt m_token m_error m_errorAt m_errorPosition m_nested m_codeCount)), (a_m_fam, .inl (cJ, 130, .inr (.inl m_fam)))] [(ad 0, .inr (10, oM ad m_undoCount m_thrown m_hasSnapshot a_m_fam m_rows m_lineLength m_formattedLength m_bufferLength m_limit m_next m_beginsAt m_token m_error m_errorAt m_errorPosition m_nested m_codeCount)), (a_m_fam, .inl (cJ, 130, .inr (.inl m_fam)))] (some (.int r9)) := by
  refine g_start (own := RX10) (by decide +kernel) rfl (Nat.le_of_ble_eq_true rfl) ?_
  intro p e s m below meth c A ls S hr hlocks hE hP hD hS hA hl hin
  have hx := S.1
  have hb := S.2.1
  have hml := S.2.2.1
  have hown := S.2.2.2.1
  have htg : ∀ z ∈ gw, z.before ([.ref (ad 0), .int v1] : List Value).toArray s = true := fun w h => S.2.2.2.2 w (List.mem_cons_of_mem _ h)
  have hl : lv_has ls 4 [(0, .ref (ad 0)), (1, .int v1)] := hl
  have hS0 := hS
  obtain ⟨H, hH⟩ : ∃ H, H = s.heap := ⟨_, rfl⟩
  obtain ⟨locs, hlc⟩ : ∃ locs : List Loc, locs = [] := ⟨_, rfl⟩
  have hS : va_S A s.heap H locs := by rw [hH, hlc]; exact hS0
  have hP : va_P (dC, dI) vwCl [(ad 0, .inr (10, oM ad m_undoCount m_thrown m_hasSnapshot a_m_fam m_rows m_lineLength m_formattedLength m_bufferLength m_limit m_next m_beginsAt m_token m_error m_errorAt m_errorPosition m_nested m_codeCount)), (a_m_fam, .inl (cJ, 130, .inr (.inl m_fam)))] H := by rw [hH]; exact hP
  suffices hgo : W p l e ({ frames := 3, cells := 0, slots := 0, locals := 70 }) s m ([.ref (ad 0), .int v1] : List Value).toArray below meth c H locs 0 0 (MQ below (gQ dC dI (some (.int r9)) A [(ad 0, .inr (10, oM ad m_undoCount m_thrown m_hasSnapshot a_m_fam m_rows m_lineLength m_formattedLength m_bufferLength m_limit m_next m_beginsAt m_token m_error m_errorAt m_errorPosition m_nested m_codeCount)), (a_m_fam, .inl (cJ, 130, .inr (.inl m_fam)))]) ([.ref (ad 0), .int v1] : List Value).toArray s 0 0 A) (F0 m 0 ls []) by rw [hH, hlc] at hgo; exact hgo
  rw [p10_descendantMask] at hf
  have J32 : ∀ (v2_32 : Int32) (H : Heap) (locs : List Loc) (ls : Array Slot), p10_descendantMask_J32 v2_32 = some r9 → va_P (dC, dI) vwCl [(ad 0, .inr (10, oM ad m_undoCount m_thrown m_hasSnapshot a_m_fam m_rows m_lineLength m_formattedLength m_bufferLength m_limit m_next m_beginsAt m_token m_error m_errorAt m_errorPosition m_nested m_codeCount)), (a_m_fam, .inl (cJ, 130, .inr (.inl m_fam)))] H → va_D A [(ad 0, .inr (10, oM ad m_undoCount m_thrown m_hasSnapshot a_m_fam m_rows m_lineLength m_formattedLength m_bufferLength m_limit m_next m_beginsAt m_token m_error m_errorAt m_errorPosition m_nested m_codeCount)), (a_m_fam, .inl (cJ, 130, .inr (.inl m_fam)))] → va_S A s.heap H locs → lv_has ls 4 [(2, .int v2_32)] → W p l e ({ frames := 3, cells := 0, slots := 0, locals := 70 }) s m ([.ref (ad 0), .int v1] : List Value).toArray below meth c H locs 0 0 (MQ below (gQ dC dI (some (.int r9)) A [(ad 0, .inr (10, oM ad m_undoCount m_thrown m_hasSnapshot a_m_fam m_rows m_lineLength m_formattedLength m_bufferLength m_limit m_next m_beginsAt m_token m_error m_errorAt m_errorPosition m_nested m_codeCount)), (a_m_fam, .inl (cJ, 130, .inr (.inl m_fam)))]) ([.ref (ad 0), .int v1] : List Value).toArray s 0 0 A) (F0 m 32 ls []) := by
    intro v2_32 H locs ls hf hP hD hS hl
    rw [p10_descendantMask_J32] at hf
    refine lv_iload_n hx hb dX10_descendantMask_32 rfl (lv_at hl 0 rfl) ?_
    cases hf
    exact g_iret S hr hlocks hP hD hS dX10_descendantMask_33
  refine lv_iconst (v := 0) hx hb dX10_descendantMask_0 (by decide) ?_
  refine lv_istore_n (lv' := [(2, .int (0 : Int32)), (0, .ref (ad 0)), (1, .int v1)]) hx hb dX10_descendantMask_1 rfl hl (by decide) rfl (fun ls hl => ?_)
  refine lv_iconst (v := 0) hx hb dX10_descendantMask_2 (by decide) ?_
  refine lv_istore_n (lv' := [(3, .int (0 : Int32)), (2, .int (0 : Int32)), (0, .ref (ad 0)), (1, .int v1)]) hx hb dX10_descendantMask_3 rfl hl (by decide) rfl (fun ls hl => ?_)
  have K4 : ∀ (n4 : Nat) (v2_4 : Int32) (v3_4 : Int32) (ex4 : Int32) (H : Heap) (locs : List Loc) (ls : Array Slot), p10_descendantMask_L4 m_fam v1 n4 v2_4 v3_4 = some ex4 → (fun v2_x4 => p10_descendantMask_J32 v2_x4) ex4 = some r9 → va_P (dC, dI) vwCl [(ad 0, .inr (10, oM ad m_undoCount m_thrown m_hasSnapshot a_m_fam m_rows m_lineLength m_formattedLength m_bufferLength m_limit m_next m_beginsAt m_token m_error m_errorAt m_errorPosition m_nested m_codeCount)), (a_m_fam, .inl (cJ, 130, .inr (.inl m_fam)))] H → va_D A [(ad 0, .inr (10, oM ad m_undoCount m_thrown m_hasSnapshot a_m_fam m_rows m_lineLength m_formattedLength m_bufferLength m_limit m_next m_beginsAt m_token m_error m_errorAt m_errorPosition m_nested m_codeCount)), (a_m_fam, .inl (cJ, 130, .inr (.inl m_fam)))] → va_S A s.heap H locs → lv_has ls 4 [(0, .ref (ad 0)), (1, .int v1), (2, .int v2_4), (3, .int v3_4)] → W p l e ({ frames := 3, cells := 0, slots := 0, locals := 70 }) s m ([.ref (ad 0), .int v1] : List Value).toArray below meth c H locs 0 0 (MQ below (gQ dC dI (some (.int r9)) A [(ad 0, .inr (10, oM ad m_undoCount m_thrown m_hasSnapshot a_m_fam m_rows m_lineLength m_formattedLength m_bufferLength m_limit m_next m_beginsAt m_token m_error m_errorAt m_errorPosition m_nested m_codeCount)), (a_m_fam, .inl (cJ, 130, .inr (.inl m_fam)))]) ([.ref (ad 0), .int v1] : List Value).toArray s 0 0 A) (F0 m 4 ls []) := by
    intro n4
    induction n4 with
    | zero => intro v2_4 v3_4 ex4 H locs ls hf; rw [p10_descendantMask_L4] at hf; cases hf
    | succ n4 ih4 =>
      intro v2_4 v3_4 ex4 H locs ls hf hk4 hP hD hS hl
      rw [p10_descendantMask_L4, p10_descendantMask_L4_B] at hf
      refine lv_iload_n hx hb dX10_descendantMask_4 rfl (lv_at hl 3 rfl) ?_
      refine lv_aload_n hx hb dX10_descendantMask_5 rfl (lv_at hl 0 rfl) ?_
      obtain ⟨r6, h9, hf⟩ := ob_s hf
      refine gcV (index := 121) S hE (c_X10_persons ad a_m_fam m_undoCount m_thrown m_hasSnapshot m_rows m_lineLength m_formattedLength m_bufferLength m_limit m_next m_beginsAt m_token m_error m_errorAt m_errorPosition m_nested m_codeCount m_fam r6 h9) mX10_persons tw1511 ⟨Nat.le_of_ble_eq_true rfl, Nat.le_of_ble_eq_true rfl⟩ hP hD hS hA ⟨Nat.zero_le _, Nat.zero_le _⟩ 0 10 rfl rfl rfl (wr := []) [0, 1] [] rfl rfl rfl rfl (by decide) (As := []) (rest := [.int v3_4]) rfl hl.1 rfl (Nat.le_of_ble_eq_true rfl) dX10_descendantMask_6 (fun H locs hP hD hS => ?_)
      refine W.eq (g2 := F0 m 9 ls [.int r6, .int v3_4]) rfl ?_
      have hP : va_P (dC, dI) vwCl [(ad 0, .inr (10, oM ad m_undoCount m_thrown m_hasSnapshot a_m_fam m_rows m_lineLength m_formattedLength m_bufferLength m_limit m_next m_beginsAt m_token m_error m_errorAt m_errorPosition m_nested m_codeCount)), (a_m_fam, .inl (cJ, 130, .inr (.inl m_fam)))] H := hP
      have hD : va_D A [(ad 0, .inr (10, oM ad m_undoCount m_thrown m_hasSnapshot a_m_fam m_rows m_lineLength m_formattedLength m_bufferLength m_limit m_next m_beginsAt m_token m_error m_errorAt m_errorPosition m_nested m_codeCount)), (a_m_fam, .inl (cJ, 130, .inr (.inl m_fam)))] := hD
      refine lv_icmp_ge (tgt := 32) hx hb dX10_descendantMask_9 (by decide) (fun h9 => ?_) (fun h9 => ?_)
      · have hf := itt h9 hf
        cases hf
        have hf := hk4
        exact J32 v2_4 H locs ls hf hP hD hS (lv_sub hl [2] rfl)
      · have hf := itf h9 hf
        refine lv_iload_n hx hb dX10_descendantMask_12 rfl (lv_at hl 2 rfl) ?_
        refine lv_aload_n hx hb dX10_descendantMask_13 rfl (lv_at hl 0 rfl) ?_
        refine lv_iload_n hx hb dX10_descendantMask_14 rfl (lv_at hl 3 rfl) ?_
        obtain ⟨r15, h9, hf⟩ := ob_s hf
        refine gcV (index := 254) S hE (c_X10_ancestorMask ad a_m_fam m_undoCount m_thrown m_hasSnapshot m_rows m_lineLength m_formattedLength m_bufferLength m_limit m_next m_beginsAt m_token m_error m_errorAt m_errorPosition m_nested m_codeCount m_fam v3_4 r15 h9) mX10_ancestorMask tw1648 ⟨Nat.le_of_ble_eq_true rfl, Nat.le_of_ble_eq_true rfl⟩ hP hD hS hA ⟨Nat.zero_le _, Nat.zero_le _⟩ 0 10 rfl rfl rfl (wr := []) [0, 1] [] rfl rfl rfl rfl (by decide) (As := [.int v3_4]) (rest := [.int v2_4]) rfl hl.1 rfl (Nat.le_of_ble_eq_true rfl) dX10_descendantMask_15 (fun H locs hP hD hS => ?_)
        refine W.eq (g2 := F0 m 18 ls [.int r15, .int v2_4]) rfl ?_
        have hP : va_P (dC, dI) vwCl [(ad 0, .inr (10, oM ad m_undoCount m_thrown m_hasSnapshot a_m_fam m_rows m_lineLength m_formattedLength m_bufferLength m_limit m_next m_beginsAt m_token m_error m_errorAt m_errorPosition m_nested m_codeCount)), (a_m_fam, .inl (cJ, 130, .inr (.inl m_fam)))] H := hP
        have hD : va_D A [(ad 0, .inr (10, oM ad m_undoCount m_thrown m_hasSnapshot a_m_fam m_rows m_lineLength m_formattedLength m_bufferLength m_limit m_next m_beginsAt m_token m_error m_errorAt m_errorPosition m_nested m_codeCount)), (a_m_fam, .inl (cJ, 130, .inr (.inl m_fam)))] := hD
        refine lv_iload_n hx hb dX10_descendantMask_18 rfl (lv_at hl 1 rfl) ?_
        refine lv_ishr hx hb dX10_descendantMask_19 ?_
        refine lv_iconst (v := 1) hx hb dX10_descendantMask_20 (by decide) ?_
        refine lv_iand hx hb dX10_descendantMask_21 ?_
        refine lv_iload_n hx hb dX10_descendantMask_22 rfl (lv_at hl 3 rfl) ?_
        refine lv_ishl hx hb dX10_descendantMask_23 ?_
        refine lv_ior hx hb dX10_descendantMask_24 ?_
        refine lv_topi (fun t25 h9 => ?_)
        have hf := lb_e h9 hf
        refine lv_istore_n (lv' := [(2, .int t25), (0, .ref (ad 0)), (1, .int v1), (3, .int v3_4)]) hx hb dX10_descendantMask_25 rfl hl (by decide) rfl (fun ls hl => ?_)
        obtain ⟨t26, h9⟩ : ∃ z : Int32, z = (v3_4 + (1 : Int32)) := ⟨_, rfl⟩
        have hf := lb_e h9 hf
        refine lv_iinc (v := t26) (lv' := [(3, .int t26), (2, .int t25), (0, .ref (ad 0)), (1, .int v1)]) hx hb dX10_descendantMask_26 hl (k := 3) rfl (by rw [h9]; rfl) (by decide) rfl (fun ls hl => ?_)
        refine lv_goto (tgt := 4) hx hb dX10_descendantMask_29 (by decide) ?_
        exact ih4 t25 t26 ex4 H locs ls hf hk4 hP hD hS (lv_sub hl [2, 3, 1, 0] rfl)
  obtain ⟨ex, h9, hf⟩ := ob_s hf
  exact K4 FU (0 : Int32) (0 : Int32) ex H locs ls h9 hf hP hD hS (lv_sub hl [2, 3, 1, 0] rfl)
set_option maxHeartbeats 4000000 in
set_option maxRecDepth 100000 in
theorem c_X10_descendants (ad : Nat → Nat) (a_m_fam : Nat) (m_undoCount : Int32) (m_thrown : Int32) (m_hasSnapshot : Bool) (m_rows : Int32) (m_lineLength : Int32) (m_formattedLength : Int32) (m_bufferLength : Int32) (m_limit : Int32) (m_next : Int32) (m_beginsAt : Int32) (m_token : Int32) (m_error : Int32) (m_errorAt : Int32) (m_errorPosition : Int32) (m_nested : Int32) (m_codeCount : Int32) (m_fam : Nat → Int64) (v1 : Int32) (r9 : Int32) (m_thrown_9 : Int32) (hf : p10_descendants m_fam v1 = some (r9, m_thrown_9)) : gM l dC dI cI cJ cZ yX10_descendants cX10_descendants 2 (some .int) (4) (93) [.ref (ad 0), .int v1] [(ad 0, .inr (10, oM ad m_undoCount m_thrown m_hasSnapshot a_m_fam m_rows m_lineLength m_formattedLength m_bufferLength m_limit m_next m_beginsAt m_token m_error m_errorAt m_errorPosition m_nested m_codeCount)), (a_m_fam, .inl (cJ, 130, .inr (.inl m_fam)))] [(ad 0, .inr (10, oM ad m_undoCount m_thrown_9 m_hasSnapshot a_m_fam m_rows m_lineLength m_formattedLength m_bufferLength m_limit m_next m_beginsAt m_token m_error m_errorAt m_errorPosition m_nested m_codeCount)), (a_m_fam, .inl (cJ, 130, .inr (.inl m_fam)))] (some (.int r9)) := by
  refine g_start (own := RX10) (by decide +kernel) rfl (Nat.le_of_ble_eq_true rfl) ?_
  intro p e s m below meth c A ls S hr hlocks hE hP hD hS hA hl hin
  have hx := S.1
  have hb := S.2.1
  have hml := S.2.2.1
  have hown := S.2.2.2.1
  have htg : ∀ z ∈ gw, z.before ([.ref (ad 0), .int v1] : List Value).toArray s = true := fun w h => S.2.2.2.2 w (List.mem_cons_of_mem _ h)
  have hl : lv_has ls 2 [(0, .ref (ad 0)), (1, .int v1)] := hl
  have hS0 := hS
  obtain ⟨H, hH⟩ : ∃ H, H = s.heap := ⟨_, rfl⟩
  obtain ⟨locs, hlc⟩ : ∃ locs : List Loc, locs = [] := ⟨_, rfl⟩
  have hS : va_S A s.heap H locs := by rw [hH, hlc]; exact hS0
  have hP : va_P (dC, dI) vwCl [(ad 0, .inr (10, oM ad m_undoCount m_thrown m_hasSnapshot a_m_fam m_rows m_lineLength m_formattedLength m_bufferLength m_limit m_next m_beginsAt m_token m_error m_errorAt m_errorPosition m_nested m_codeCount)), (a_m_fam, .inl (cJ, 130, .inr (.inl m_fam)))] H := by rw [hH]; exact hP
  suffices hgo : W p l e ({ frames := 4, cells := 0, slots := 0, locals := 93 }) s m ([.ref (ad 0), .int v1] : List Value).toArray below meth c H locs 0 0 (MQ below (gQ dC dI (some (.int r9)) A [(ad 0, .inr (10, oM ad m_undoCount m_thrown_9 m_hasSnapshot a_m_fam m_rows m_lineLength m_formattedLength m_bufferLength m_limit m_next m_beginsAt m_token m_error m_errorAt m_errorPosition m_nested m_codeCount)), (a_m_fam, .inl (cJ, 130, .inr (.inl m_fam)))]) ([.ref (ad 0), .int v1] : List Value).toArray s 0 0 A) (F0 m 0 ls []) by rw [hH, hlc] at hgo; exact hgo
  rw [p10_descendants] at hf
  refine lv_aload_n hx hb dX10_descendants_0 rfl (lv_at hl 0 rfl) ?_
  refine lv_iconst (v := 0) hx hb dX10_descendants_1 (by decide) ?_
  refine va_put (D := (dC, dI)) (ci := 10) (v := .int (0 : Int32)) (ty := .int) (C := RX10) (T := TX10) (N := 37) hx hb htg inX10 tyX10 tyX10_ok nmX10 hown hE.1 hP hD hS 0 rfl rfl 5 (by decide) (htg _ tw1387) (fun _ h9 => h9) rfl (by decide +kernel) rfl rfl (Nat.le_of_ble_eq_true rfl) dX10_descendants_2 (fun H locs hP hD hS => ?_)
  have hP : va_P (dC, dI) vwCl [(ad 0, .inr (10, oM ad m_undoCount (0 : Int32) m_hasSnapshot a_m_fam m_rows m_lineLength m_formattedLength m_bufferLength m_limit m_next m_beginsAt m_token m_error m_errorAt m_errorPosition m_nested m_codeCount)), (a_m_fam, .inl (cJ, 130, .inr (.inl m_fam)))] H := hP
  have hD : va_D A [(ad 0, .inr (10, oM ad m_undoCount (0 : Int32) m_hasSnapshot a_m_fam m_rows m_lineLength m_formattedLength m_bufferLength m_limit m_next m_beginsAt m_token m_error m_errorAt m_errorPosition m_nested m_codeCount)), (a_m_fam, .inl (cJ, 130, .inr (.inl m_fam)))] := hD
  refine lv_aload_n hx hb dX10_descendants_5 rfl (lv_at hl 0 rfl) ?_
  refine lv_iload_n hx hb dX10_descendants_6 rfl (lv_at hl 1 rfl) ?_
  obtain ⟨r7, h9, hf⟩ := ob_s hf
  refine gcV (index := 234) S hE (c_X10_isPerson ad a_m_fam m_undoCount (0 : Int32) m_hasSnapshot m_rows m_lineLength m_formattedLength m_bufferLength m_limit m_next m_beginsAt m_token m_error m_errorAt m_errorPosition m_nested m_codeCount m_fam v1 r7 h9) mX10_isPerson tw1576 ⟨Nat.le_of_ble_eq_true rfl, Nat.le_of_ble_eq_true rfl⟩ hP hD hS hA ⟨Nat.zero_le _, Nat.zero_le _⟩ 0 10 rfl rfl rfl (wr := []) [0, 1] [] rfl rfl rfl rfl (by decide) (As := [.int v1]) (rest := []) rfl hl.1 rfl (Nat.le_of_ble_eq_true rfl) dX10_descendants_7 (fun H locs hP hD hS => ?_)
  refine W.eq (g2 := F0 m 10 ls [.int (bI r7)]) rfl ?_
  have hP : va_P (dC, dI) vwCl [(ad 0, .inr (10, oM ad m_undoCount (0 : Int32) m_hasSnapshot a_m_fam m_rows m_lineLength m_formattedLength m_bufferLength m_limit m_next m_beginsAt m_token m_error m_errorAt m_errorPosition m_nested m_codeCount)), (a_m_fam, .inl (cJ, 130, .inr (.inl m_fam)))] H := hP
  have hD : va_D A [(ad 0, .inr (10, oM ad m_undoCount (0 : Int32) m_hasSnapshot a_m_fam m_rows m_lineLength m_formattedLength m_bufferLength m_limit m_next m_beginsAt m_token m_error m_errorAt m_errorPosition m_nested m_codeCount)), (a_m_fam, .inl (cJ, 130, .inr (.inl m_fam)))] := hD
  refine lv_if_eq (tgt := 21) hx hb dX10_descendants_10 (by decide) (fun h9 => ?_) (fun h9 => ?_)
  · have hf := ctf (bI_0 h9) hf
    refine lv_aload_n hx hb dX10_descendants_21 rfl (lv_at hl 0 rfl) ?_
    refine lv_iconst (v := 1) hx hb dX10_descendants_22 (by decide) ?_
    obtain ⟨r23, m_thrown_23, h9⟩ : ∃ r23 m_thrown_23, p10_raise (1 : Int32) = (r23, m_thrown_23) := ⟨_, _, rfl⟩
    have hf := uc2_e (lb_e h9.symm hf)
    refine gcV (index := 240) S hE (c_X10_raise ad a_m_fam m_undoCount (0 : Int32) m_hasSnapshot m_rows m_lineLength m_formattedLength m_bufferLength m_limit m_next m_beginsAt m_token m_error m_errorAt m_errorPosition m_nested m_codeCount (1 : Int32) r23 m_thrown_23 h9) mX10_raise tw1584 ⟨Nat.le_of_ble_eq_true rfl, Nat.le_of_ble_eq_true rfl⟩ hP hD hS hA ⟨Nat.zero_le _, Nat.zero_le _⟩ 0 10 rfl rfl rfl (wr := [(a_m_fam, .inl (cJ, 130, .inr (.inl m_fam)))]) [0] [1] rfl rfl rfl rfl (by decide) (As := [.int (1 : Int32)]) (rest := []) rfl hl.1 rfl (Nat.le_of_ble_eq_true rfl) dX10_descendants_23 (fun H locs hP hD hS => ?_)
    refine W.eq (g2 := F0 m 26 ls [.int r23]) rfl ?_
    have hP : va_P (dC, dI) vwCl [(a_m_fam, .inl (cJ, 130, .inr (.inl m_fam))), (ad 0, .inr (10, oM ad m_undoCount m_thrown_23 m_hasSnapshot a_m_fam m_rows m_lineLength m_formattedLength m_bufferLength m_limit m_next m_beginsAt m_token m_error m_errorAt m_errorPosition m_nested m_codeCount))] H := hP
    have hD : va_D A [(a_m_fam, .inl (cJ, 130, .inr (.inl m_fam))), (ad 0, .inr (10, oM ad m_undoCount m_thrown_23 m_hasSnapshot a_m_fam m_rows m_lineLength m_formattedLength m_bufferLength m_limit m_next m_beginsAt m_token m_error m_errorAt m_errorPosition m_nested m_codeCount))] := hD
    cases hf
    exact g_iret S hr hlocks (hP.sub [1, 0] rfl) (hD.sub [1, 0] (by decide) rfl) hS dX10_descendants_26
  · have hf := ctt (bI_1 h9) hf
    refine lv_aload_n hx hb dX10_descendants_13 rfl (lv_at hl 0 rfl) ?_
    refine lv_iload_n hx hb dX10_descendants_14 rfl (lv_at hl 1 rfl) ?_
    obtain ⟨r15, h9, hf⟩ := ob_s hf
    refine gcV (index := 257) S hE (c_X10_descendantMask ad a_m_fam m_undoCount (0 : Int32) m_hasSnapshot m_rows m_lineLength m_formattedLength m_bufferLength m_limit m_next m_beginsAt m_token m_error m_errorAt m_errorPosition m_nested m_codeCount m_fam v1 r15 h9) mX10_descendantMask tw1656 ⟨Nat.le_of_ble_eq_true rfl, Nat.le_of_ble_eq_true rfl⟩ hP hD hS hA ⟨Nat.zero_le _, Nat.zero_le _⟩ 0 10 rfl rfl rfl (wr := []) [0, 1] [] rfl rfl rfl rfl (by decide) (As := [.int v1]) (rest := []) rfl hl.1 rfl (Nat.le_of_ble_eq_true rfl) dX10_descendants_15 (fun H locs hP hD hS => ?_)
    refine W.eq (g2 := F0 m 18 ls [.int r15]) rfl ?_
    have hP : va_P (dC, dI) vwCl [(ad 0, .inr (10, oM ad m_undoCount (0 : Int32) m_hasSnapshot a_m_fam m_rows m_lineLength m_formattedLength m_bufferLength m_limit m_next m_beginsAt m_token m_error m_errorAt m_errorPosition m_nested m_codeCount)), (a_m_fam, .inl (cJ, 130, .inr (.inl m_fam)))] H := hP
    have hD : va_D A [(ad 0, .inr (10, oM ad m_undoCount (0 : Int32) m_hasSnapshot a_m_fam m_rows m_lineLength m_formattedLength m_bufferLength m_limit m_next m_beginsAt m_token m_error m_errorAt m_errorPosition m_nested m_codeCount)), (a_m_fam, .inl (cJ, 130, .inr (.inl m_fam)))] := hD
    refine lv_goto (tgt := 26) hx hb dX10_descendants_18 (by decide) ?_
    cases hf
    exact g_iret S hr hlocks hP hD hS dX10_descendants_26
set_option maxHeartbeats 4000000 in
set_option maxRecDepth 100000 in
theorem c_X10_forgetKinships (ad : Nat → Nat) (a_m_fam : Nat) (m_undoCount : Int32) (m_thrown : Int32) (m_hasSnapshot : Bool) (m_rows : Int32) (m_lineLength : Int32) (m_formattedLength : Int32) (m_bufferLength : Int32) (m_limit : Int32) (m_next : Int32) (m_beginsAt : Int32) (m_token : Int32) (m_error : Int32) (m_errorAt : Int32) (m_errorPosition : Int32) (m_nested : Int32) (m_codeCount : Int32) (m_fam : Nat → Int64) (m_generation : Nat → Int32) (m_kinships : Nat → Int64) (m_level : Nat → Int32) (m_generation_9 : Nat → Int32) (m_kinships_9 : Nat → Int64) (m_level_9 : Nat → Int32) (m_rows_9 : Int32) (hf : p10_forgetKinships m_fam m_generation m_kinships m_level = some (m_generation_9, m_kinships_9, m_level_9, m_rows_9)) : gM l dC dI cI cJ cZ yX10_forgetKinships cX10_forgetKinships 2 none (3) (66) [.ref (ad 0)] [(ad 0, .inr (10, oM ad m_undoCount m_thrown m_hasSnapshot a_m_fam m_rows m_lineLength m_formattedLength m_bufferLength m_limit m_next m_beginsAt m_token m_error m_errorAt m_errorPosition m_nested m_codeCount)), (a_m_fam, .inl (cJ, 130, .inr (.inl m_fam))), ((ad 9), .inl (cI, 16, .inl m_generation)), ((ad 19), .inl (cJ, 256, .inr (.inl m_kinships))), ((ad 10), .inl (cI, 12, .inl m_level))] [(ad 0, .inr (10, oM ad m_undoCount m_thrown m_hasSnapshot a_m_fam m_rows_9 m_lineLength m_formattedLength m_bufferLength m_limit m_next m_beginsAt m_token m_error m_errorAt m_errorPosition m_nested m_codeCount)), (a_m_fam, .inl (cJ, 130, .inr (.inl m_fam))), ((ad 9), .inl (cI, 16, .inl m_generation_9)), ((ad 19), .inl (cJ, 256, .inr (.inl m_kinships_9))), ((ad 10), .inl (cI, 12, .inl m_level_9))] none := by
  refine g_start (own := RX10) (by decide +kernel) rfl (Nat.le_of_ble_eq_true rfl) ?_
  intro p e s m below meth c A ls S hr hlocks hE hP hD hS hA hl hin
  have hx := S.1
  have hb := S.2.1
  have hml := S.2.2.1
  have hown := S.2.2.2.1
  have htg : ∀ z ∈ gw, z.before ([.ref (ad 0)] : List Value).toArray s = true := fun w h => S.2.2.2.2 w (List.mem_cons_of_mem _ h)
  have hl : lv_has ls 2 [(0, .ref (ad 0))] := hl
  have hS0 := hS
  obtain ⟨H, hH⟩ : ∃ H, H = s.heap := ⟨_, rfl⟩
  obtain ⟨locs, hlc⟩ : ∃ locs : List Loc, locs = [] := ⟨_, rfl⟩
  have hS : va_S A s.heap H locs := by rw [hH, hlc]; exact hS0
  have hP : va_P (dC, dI) vwCl [(ad 0, .inr (10, oM ad m_undoCount m_thrown m_hasSnapshot a_m_fam m_rows m_lineLength m_formattedLength m_bufferLength m_limit m_next m_beginsAt m_token m_error m_errorAt m_errorPosition m_nested m_codeCount)), (a_m_fam, .inl (cJ, 130, .inr (.inl m_fam))), ((ad 9), .inl (cI, 16, .inl m_generation)), ((ad 19), .inl (cJ, 256, .inr (.inl m_kinships))), ((ad 10), .inl (cI, 12, .inl m_level))] H := by rw [hH]; exact hP
  suffices hgo : W p l e ({ frames := 3, cells := 0, slots := 0, locals := 66 }) s m ([.ref (ad 0)] : List Value).toArray below meth c H locs 0 0 (MQ below (gQ dC dI none A [(ad 0, .inr (10, oM ad m_undoCount m_thrown m_hasSnapshot a_m_fam m_rows_9 m_lineLength m_formattedLength m_bufferLength m_limit m_next m_beginsAt m_token m_error m_errorAt m_errorPosition m_nested m_codeCount)), (a_m_fam, .inl (cJ, 130, .inr (.inl m_fam))), ((ad 9), .inl (cI, 16, .inl m_generation_9)), ((ad 19), .inl (cJ, 256, .inr (.inl m_kinships_9))), ((ad 10), .inl (cI, 12, .inl m_level_9))]) ([.ref (ad 0)] : List Value).toArray s 0 0 A) (F0 m 0 ls []) by rw [hH, hlc] at hgo; exact hgo
  rw [p10_forgetKinships] at hf
  have J30 : ∀ (m_rows_30 : Int32) (m_generation_30 : Nat → Int32) (m_kinships_30 : Nat → Int64) (m_level_30 : Nat → Int32) (H : Heap) (locs : List Loc) (ls : Array Slot), p10_forgetKinships_J30 m_rows_30 m_generation_30 m_kinships_30 m_level_30 = some (m_generation_9, m_kinships_9, m_level_9, m_rows_9) → va_P (dC, dI) vwCl [(ad 0, .inr (10, oM ad m_undoCount m_thrown m_hasSnapshot a_m_fam m_rows_30 m_lineLength m_formattedLength m_bufferLength m_limit m_next m_beginsAt m_token m_error m_errorAt m_errorPosition m_nested m_codeCount)), (a_m_fam, .inl (cJ, 130, .inr (.inl m_fam))), ((ad 9), .inl (cI, 16, .inl m_generation_30)), ((ad 19), .inl (cJ, 256, .inr (.inl m_kinships_30))), ((ad 10), .inl (cI, 12, .inl m_level_30))] H → va_D A [(ad 0, .inr (10, oM ad m_undoCount m_thrown m_hasSnapshot a_m_fam m_rows_30 m_lineLength m_formattedLength m_bufferLength m_limit m_next m_beginsAt m_token m_error m_errorAt m_errorPosition m_nested m_codeCount)), (a_m_fam, .inl (cJ, 130, .inr (.inl m_fam))), ((ad 9), .inl (cI, 16, .inl m_generation_30)), ((ad 19), .inl (cJ, 256, .inr (.inl m_kinships_30))), ((ad 10), .inl (cI, 12, .inl m_level_30))] → va_S A s.heap H locs → lv_has ls 2 [] → W p l e ({ frames := 3, cells := 0, slots := 0, locals := 66 }) s m ([.ref (ad 0)] : List Value).toArray below meth c H locs 0 0 (MQ below (gQ dC dI none A [(ad 0, .inr (10, oM ad m_undoCount m_thrown m_hasSnapshot a_m_fam m_rows_9 m_lineLength m_formattedLength m_bufferLength m_limit m_next m_beginsAt m_token m_error m_errorAt m_errorPosition m_nested m_codeCount)), (a_m_fam, .inl (cJ, 130, .inr (.inl m_fam))), ((ad 9), .inl (cI, 16, .inl m_generation_9)), ((ad 19), .inl (cJ, 256, .inr (.inl m_kinships_9))), ((ad 10), .inl (cI, 12, .inl m_level_9))]) ([.ref (ad 0)] : List Value).toArray s 0 0 A) (F0 m 30 ls []) := by
    intro m_rows_30 m_generation_30 m_kinships_30 m_level_30 H locs ls hf hP hD hS hl
    rw [p10_forgetKinships_J30] at hf
    cases hf
    exact g_vret S hr hlocks hP hD hS dX10_forgetKinships_30
  refine lv_aload_n hx hb dX10_forgetKinships_0 rfl (lv_at hl 0 rfl) ?_
  obtain ⟨⟨m_generation_1, m_level_1, m_rows_1⟩, h9, hf⟩ := ob_s hf
  have hf := uc3_e hf
  refine gcV (index := 138) S hE (c_X10_layGenerations ad a_m_fam m_undoCount m_thrown m_hasSnapshot m_rows m_lineLength m_formattedLength m_bufferLength m_limit m_next m_beginsAt m_token m_error m_errorAt m_errorPosition m_nested m_codeCount m_fam m_generation m_level m_generation_1 m_level_1 m_rows_1 h9) mX10_layGenerations tw1507 ⟨Nat.le_of_ble_eq_true rfl, Nat.le_of_ble_eq_true rfl⟩ hP hD hS hA ⟨Nat.zero_le _, Nat.zero_le _⟩ 0 10 rfl rfl rfl (wr := [((ad 19), .inl (cJ, 256, .inr (.inl m_kinships)))]) [0, 1, 2, 4] [3] rfl rfl rfl rfl (by decide) (As := []) (rest := []) rfl hl.1 rfl (Nat.le_of_ble_eq_true rfl) dX10_forgetKinships_1 (fun H locs hP hD hS => ?_)
  refine W.eq (g2 := F0 m 4 ls []) rfl ?_
  have hP : va_P (dC, dI) vwCl [((ad 19), .inl (cJ, 256, .inr (.inl m_kinships))), (ad 0, .inr (10, oM ad m_undoCount m_thrown m_hasSnapshot a_m_fam m_rows_1 m_lineLength m_formattedLength m_bufferLength m_limit m_next m_beginsAt m_token m_error m_errorAt m_errorPosition m_nested m_codeCount)), (a_m_fam, .inl (cJ, 130, .inr (.inl m_fam))), ((ad 9), .inl (cI, 16, .inl m_generation_1)), ((ad 10), .inl (cI, 12, .inl m_level_1))] H := hP
  have hD : va_D A [((ad 19), .inl (cJ, 256, .inr (.inl m_kinships))), (ad 0, .inr (10, oM ad m_undoCount m_thrown m_hasSnapshot a_m_fam m_rows_1 m_lineLength m_formattedLength m_bufferLength m_limit m_next m_beginsAt m_token m_error m_errorAt m_errorPosition m_nested m_codeCount)), (a_m_fam, .inl (cJ, 130, .inr (.inl m_fam))), ((ad 9), .inl (cI, 16, .inl m_generation_1)), ((ad 10), .inl (cI, 12, .inl m_level_1))] := hD
  refine lv_iconst (v := 0) hx hb dX10_forgetKinships_4 (by decide) ?_
  refine lv_istore_n (lv' := [(1, .int (0 : Int32)), (0, .ref (ad 0))]) hx hb dX10_forgetKinships_5 rfl hl (by decide) rfl (fun ls hl => ?_)
  have K6 : ∀ (n6 : Nat) (v1_6 : Int32) (m_kinships_6 : Nat → Int64) (ex6 : (Nat → Int64)) (H : Heap) (locs : List Loc) (ls : Array Slot), p10_forgetKinships_L6 n6 v1_6 m_kinships_6 = some ex6 → (fun m_kinships_x6 => p10_forgetKinships_J30 m_rows_1 m_generation_1 m_kinships_x6 m_level_1) ex6 = some (m_generation_9, m_kinships_9, m_level_9, m_rows_9) → va_P (dC, dI) vwCl [(ad 0, .inr (10, oM ad m_undoCount m_thrown m_hasSnapshot a_m_fam m_rows_1 m_lineLength m_formattedLength m_bufferLength m_limit m_next m_beginsAt m_token m_error m_errorAt m_errorPosition m_nested m_codeCount)), (a_m_fam, .inl (cJ, 130, .inr (.inl m_fam))), ((ad 9), .inl (cI, 16, .inl m_generation_1)), ((ad 19), .inl (cJ, 256, .inr (.inl m_kinships_6))), ((ad 10), .inl (cI, 12, .inl m_level_1))] H → va_D A [(ad 0, .inr (10, oM ad m_undoCount m_thrown m_hasSnapshot a_m_fam m_rows_1 m_lineLength m_formattedLength m_bufferLength m_limit m_next m_beginsAt m_token m_error m_errorAt m_errorPosition m_nested m_codeCount)), (a_m_fam, .inl (cJ, 130, .inr (.inl m_fam))), ((ad 9), .inl (cI, 16, .inl m_generation_1)), ((ad 19), .inl (cJ, 256, .inr (.inl m_kinships_6))), ((ad 10), .inl (cI, 12, .inl m_level_1))] → va_S A s.heap H locs → lv_has ls 2 [(0, .ref (ad 0)), (1, .int v1_6)] → W p l e ({ frames := 3, cells := 0, slots := 0, locals := 66 }) s m ([.ref (ad 0)] : List Value).toArray below meth c H locs 0 0 (MQ below (gQ dC dI none A [(ad 0, .inr (10, oM ad m_undoCount m_thrown m_hasSnapshot a_m_fam m_rows_9 m_lineLength m_formattedLength m_bufferLength m_limit m_next m_beginsAt m_token m_error m_errorAt m_errorPosition m_nested m_codeCount)), (a_m_fam, .inl (cJ, 130, .inr (.inl m_fam))), ((ad 9), .inl (cI, 16, .inl m_generation_9)), ((ad 19), .inl (cJ, 256, .inr (.inl m_kinships_9))), ((ad 10), .inl (cI, 12, .inl m_level_9))]) ([.ref (ad 0)] : List Value).toArray s 0 0 A) (F0 m 6 ls []) := by
    intro n6
    induction n6 with
    | zero => intro v1_6 m_kinships_6 ex6 H locs ls hf; rw [p10_forgetKinships_L6] at hf; cases hf
    | succ n6 ih6 =>
      intro v1_6 m_kinships_6 ex6 H locs ls hf hk6 hP hD hS hl
      rw [p10_forgetKinships_L6, p10_forgetKinships_L6_B] at hf
      refine lv_iload_n hx hb dX10_forgetKinships_6 rfl (lv_at hl 1 rfl) ?_
      refine lv_aload_n hx hb dX10_forgetKinships_7 rfl (lv_at hl 0 rfl) ?_
      refine va_get (D := (dC, dI)) (ci := 10) (v := .ref (ad 19)) (C := RX10) (T := TX10) (N := 37) hx hb htg inX10 hown hE.1 hP 0 rfl rfl 18 (by decide) (htg _ tw1400) (fun _ h9 => h9) rfl dX10_forgetKinships_8 ?_
      refine va_alen (v := (256 : Int32)) hx hb hE.1 hP 3 1 rfl rfl rfl dX10_forgetKinships_11 ?_
      refine lv_icmp_ge (tgt := 30) hx hb dX10_forgetKinships_12 (by decide) (fun h9 => ?_) (fun h9 => ?_)
      · have hf := itt h9 hf
        cases hf
        have hf := hk6
        exact J30 m_rows_1 m_generation_1 m_kinships_6 m_level_1 H locs ls hf hP hD hS (lv_sub hl [] rfl)
      · have hf := itf h9 hf
        refine lv_aload_n hx hb dX10_forgetKinships_15 rfl (lv_at hl 0 rfl) ?_
        refine va_get (D := (dC, dI)) (ci := 10) (v := .ref (ad 19)) (C := RX10) (T := TX10) (N := 37) hx hb htg inX10 hown hE.1 hP 0 rfl rfl 18 (by decide) (htg _ tw1400) (fun _ h9 => h9) rfl dX10_forgetKinships_16 ?_
        refine lv_iload_n hx hb dX10_forgetKinships_19 rfl (lv_at hl 1 rfl) ?_
        refine lv_ldc2 (own := RX10) (v := -1) hx hb hown (htg _ tw1672) dX10_forgetKinships_20 ?_
        obtain ⟨h9, hf⟩ := gd_s hf
        refine va_last hx hb hE.1 hP hD hS 3 1 rfl rfl h9 dX10_forgetKinships_23 (fun H locs hP hD hS => ?_)
        obtain ⟨g23, h9⟩ : ∃ z, z = (vp_updL m_kinships_6 v1_6.toNatClampNeg (-1 : Int64)) := ⟨_, rfl⟩
        have hf := lb_e h9 hf
        have hP : va_P (dC, dI) vwCl [(ad 0, .inr (10, oM ad m_undoCount m_thrown m_hasSnapshot a_m_fam m_rows_1 m_lineLength m_formattedLength m_bufferLength m_limit m_next m_beginsAt m_token m_error m_errorAt m_errorPosition m_nested m_codeCount)), (a_m_fam, .inl (cJ, 130, .inr (.inl m_fam))), ((ad 9), .inl (cI, 16, .inl m_generation_1)), ((ad 19), .inl (cJ, 256, .inr (.inl g23))), ((ad 10), .inl (cI, 12, .inl m_level_1))] H := by rw [h9]; exact hP
        have hD : va_D A [(ad 0, .inr (10, oM ad m_undoCount m_thrown m_hasSnapshot a_m_fam m_rows_1 m_lineLength m_formattedLength m_bufferLength m_limit m_next m_beginsAt m_token m_error m_errorAt m_errorPosition m_nested m_codeCount)), (a_m_fam, .inl (cJ, 130, .inr (.inl m_fam))), ((ad 9), .inl (cI, 16, .inl m_generation_1)), ((ad 19), .inl (cJ, 256, .inr (.inl g23))), ((ad 10), .inl (cI, 12, .inl m_level_1))] := by rw [h9]; exact hD
        obtain ⟨t24, h9⟩ : ∃ z : Int32, z = (v1_6 + (1 : Int32)) := ⟨_, rfl⟩
        have hf := lb_e h9 hf
        refine lv_iinc (v := t24) (lv' := [(1, .int t24), (0, .ref (ad 0))]) hx hb dX10_forgetKinships_24 hl (k := 1) rfl (by rw [h9]; rfl) (by decide) rfl (fun ls hl => ?_)
        refine lv_goto (tgt := 6) hx hb dX10_forgetKinships_27 (by decide) ?_
        exact ih6 t24 g23 ex6 H locs ls hf hk6 hP hD hS (lv_sub hl [1, 0] rfl)
  obtain ⟨ex, h9, hf⟩ := ob_s hf
  exact K6 FU (0 : Int32) m_kinships ex H locs ls h9 hf (hP.sub [1, 2, 3, 0, 4] rfl) (hD.sub [1, 2, 3, 0, 4] (by decide) rfl) hS (lv_sub hl [1, 0] rfl)
set_option maxHeartbeats 4000000 in
set_option maxRecDepth 100000 in
theorem c_X10_isLater (ad : Nat → Nat) (a_m_fam : Nat) (m_undoCount : Int32) (m_thrown : Int32) (m_hasSnapshot : Bool) (m_rows : Int32) (m_lineLength : Int32) (m_formattedLength : Int32) (m_bufferLength : Int32) (m_limit : Int32) (m_next : Int32) (m_beginsAt : Int32) (m_token : Int32) (m_error : Int32) (m_errorAt : Int32) (m_errorPosition : Int32) (m_nested : Int32) (m_codeCount : Int32) (m_generation : Nat → Int32) (v1 : Int32) (v2 : Int32) (r9 : Bool) (hf : p10_isLater m_generation v1 v2 = some r9) : gM l dC dI cI cJ cZ yX10_isLater cX10_isLater 3 (some .boolean) (0) (0) [.ref (ad 0), .int v1, .int v2] [(ad 0, .inr (10, oM ad m_undoCount m_thrown m_hasSnapshot a_m_fam m_rows m_lineLength m_formattedLength m_bufferLength m_limit m_next m_beginsAt m_token m_error m_errorAt m_errorPosition m_nested m_codeCount)), ((ad 9), .inl (cI, 16, .inl m_generation))] [(ad 0, .inr (10, oM ad m_undoCount m_thrown m_hasSnapshot a_m_fam m_rows m_lineLength m_formattedLength m_bufferLength m_limit m_next m_beginsAt m_token m_error m_errorAt m_errorPosition m_nested m_codeCount)), ((ad 9), .inl (cI, 16, .inl m_generation))] (some (.int (bI r9))) := by
  refine g_start (own := RX10) (by decide +kernel) rfl (Nat.le_of_ble_eq_true rfl) ?_
  intro p e s m below meth c A ls S hr hlocks hE hP hD hS hA hl hin
  have hx := S.1
  have hb := S.2.1
  have hml := S.2.2.1
  have hown := S.2.2.2.1
  have htg : ∀ z ∈ gw, z.before ([.ref (ad 0), .int v1, .int v2] : List Value).toArray s = true := fun w h => S.2.2.2.2 w (List.mem_cons_of_mem _ h)
  have hl : lv_has ls 3 [(0, .ref (ad 0)), (1, .int v1), (2, .int v2)] := hl
  have hS0 := hS
  obtain ⟨H, hH⟩ : ∃ H, H = s.heap := ⟨_, rfl⟩
  obtain ⟨locs, hlc⟩ : ∃ locs : List Loc, locs = [] := ⟨_, rfl⟩
  have hS : va_S A s.heap H locs := by rw [hH, hlc]; exact hS0
  have hP : va_P (dC, dI) vwCl [(ad 0, .inr (10, oM ad m_undoCount m_thrown m_hasSnapshot a_m_fam m_rows m_lineLength m_formattedLength m_bufferLength m_limit m_next m_beginsAt m_token m_error m_errorAt m_errorPosition m_nested m_codeCount)), ((ad 9), .inl (cI, 16, .inl m_generation))] H := by rw [hH]; exact hP
  suffices hgo : W p l e ({ frames := 0, cells := 0, slots := 0, locals := 0 }) s m ([.ref (ad 0), .int v1, .int v2] : List Value).toArray below meth c H locs 0 0 (MQ below (gQ dC dI (some (.int (bI r9))) A [(ad 0, .inr (10, oM ad m_undoCount m_thrown m_hasSnapshot a_m_fam m_rows m_lineLength m_formattedLength m_bufferLength m_limit m_next m_beginsAt m_token m_error m_errorAt m_errorPosition m_nested m_codeCount)), ((ad 9), .inl (cI, 16, .inl m_generation))]) ([.ref (ad 0), .int v1, .int v2] : List Value).toArray s 0 0 A) (F0 m 0 ls []) by rw [hH, hlc] at hgo; exact hgo
  rw [p10_isLater] at hf
  refine lv_aload_n hx hb dX10_isLater_0 rfl (lv_at hl 0 rfl) ?_
  refine va_get (D := (dC, dI)) (ci := 10) (v := .ref (ad 9)) (C := RX10) (T := TX10) (N := 37) hx hb htg inX10 hown hE.1 hP 0 rfl rfl 8 (by decide) (htg _ tw1390) (fun _ h9 => h9) rfl dX10_isLater_1 ?_
  refine lv_iload_n hx hb dX10_isLater_4 rfl (lv_at hl 1 rfl) ?_
  obtain ⟨h9, hf⟩ := gd_s hf
  refine va_iald hx hb hE.1 hP 1 0 rfl rfl h9 dX10_isLater_5 ?_
  refine lv_aload_n hx hb dX10_isLater_6 rfl (lv_at hl 0 rfl) ?_
  refine va_get (D := (dC, dI)) (ci := 10) (v := .ref (ad 9)) (C := RX10) (T := TX10) (N := 37) hx hb htg inX10 hown hE.1 hP 0 rfl rfl 8 (by decide) (htg _ tw1390) (fun _ h9 => h9) rfl dX10_isLater_7 ?_
  refine lv_iload_n hx hb dX10_isLater_10 rfl (lv_at hl 2 rfl) ?_
  obtain ⟨h9, hf⟩ := gd_s hf
  refine va_iald hx hb hE.1 hP 1 0 rfl rfl h9 dX10_isLater_11 ?_
  refine lv_icmp_gt (tgt := 35) hx hb dX10_isLater_12 (by decide) (fun h9 => ?_) (fun h9 => ?_)
  · have hf := itt h9 hf
    refine lv_iconst (v := 1) hx hb dX10_isLater_35 (by decide) ?_
    refine lv_goto (tgt := 40) hx hb dX10_isLater_36 (by decide) ?_
    cases hf
    exact g_zret S hr (nar_bI true) hlocks hP hD hS dX10_isLater_40
  · have hf := itf h9 hf
    refine lv_aload_n hx hb dX10_isLater_15 rfl (lv_at hl 0 rfl) ?_
    refine va_get (D := (dC, dI)) (ci := 10) (v := .ref (ad 9)) (C := RX10) (T := TX10) (N := 37) hx hb htg inX10 hown hE.1 hP 0 rfl rfl 8 (by decide) (htg _ tw1390) (fun _ h9 => h9) rfl dX10_isLater_16 ?_
    refine lv_iload_n hx hb dX10_isLater_19 rfl (lv_at hl 1 rfl) ?_
    obtain ⟨h9, hf⟩ := gd_s hf
    refine va_iald hx hb hE.1 hP 1 0 rfl rfl h9 dX10_isLater_20 ?_
    refine lv_aload_n hx hb dX10_isLater_21 rfl (lv_at hl 0 rfl) ?_
    refine va_get (D := (dC, dI)) (ci := 10) (v := .ref (ad 9)) (C := RX10) (T := TX10) (N := 37) hx hb htg inX10 hown hE.1 hP 0 rfl rfl 8 (by decide) (htg _ tw1390) (fun _ h9 => h9) rfl dX10_isLater_22 ?_
    refine lv_iload_n hx hb dX10_isLater_25 rfl (lv_at hl 2 rfl) ?_
    obtain ⟨h9, hf⟩ := gd_s hf
    refine va_iald hx hb hE.1 hP 1 0 rfl rfl h9 dX10_isLater_26 ?_
    refine lv_icmp_ne (tgt := 39) hx hb dX10_isLater_27 (by decide) (fun h9 => ?_) (fun h9 => ?_)
    · have hf := itf h9 hf
      refine lv_iconst (v := 0) hx hb dX10_isLater_39 (by decide) ?_
      cases hf
      exact g_zret S hr (nar_bI false) hlocks hP hD hS dX10_isLater_40
    · have hf := itt h9 hf
      refine lv_iload_n hx hb dX10_isLater_30 rfl (lv_at hl 1 rfl) ?_
      refine lv_iload_n hx hb dX10_isLater_31 rfl (lv_at hl 2 rfl) ?_
      refine lv_icmp_le (tgt := 39) hx hb dX10_isLater_32 (by decide) (fun h9 => ?_) (fun h9 => ?_)
      · have hf := itt h9 hf
        refine lv_iconst (v := 0) hx hb dX10_isLater_39 (by decide) ?_
        cases hf
        exact g_zret S hr (nar_bI false) hlocks hP hD hS dX10_isLater_40
      · have hf := itf h9 hf
        refine lv_iconst (v := 1) hx hb dX10_isLater_35 (by decide) ?_
        refine lv_goto (tgt := 40) hx hb dX10_isLater_36 (by decide) ?_
        cases hf
        exact g_zret S hr (nar_bI true) hlocks hP hD hS dX10_isLater_40
set_option maxHeartbeats 4000000 in
set_option maxRecDepth 100000 in
theorem c_X10_arePersons (ad : Nat → Nat) (a_m_fam : Nat) (m_undoCount : Int32) (m_thrown : Int32) (m_hasSnapshot : Bool) (m_rows : Int32) (m_lineLength : Int32) (m_formattedLength : Int32) (m_bufferLength : Int32) (m_limit : Int32) (m_next : Int32) (m_beginsAt : Int32) (m_token : Int32) (m_error : Int32) (m_errorAt : Int32) (m_errorPosition : Int32) (m_nested : Int32) (m_codeCount : Int32) (m_fam : Nat → Int64) (v1 : Int32) (v2 : Int32) (r9 : Bool) (m_thrown_9 : Int32) (hf : p10_arePersons m_fam v1 v2 = some (r9, m_thrown_9)) : gM l dC dI cI cJ cZ yX10_arePersons cX10_arePersons 3 (some .boolean) (2) (46) [.ref (ad 0), .int v1, .int v2] [(ad 0, .inr (10, oM ad m_undoCount m_thrown m_hasSnapshot a_m_fam m_rows m_lineLength m_formattedLength m_bufferLength m_limit m_next m_beginsAt m_token m_error m_errorAt m_errorPosition m_nested m_codeCount)), (a_m_fam, .inl (cJ, 130, .inr (.inl m_fam)))] [(ad 0, .inr (10, oM ad m_undoCount m_thrown_9 m_hasSnapshot a_m_fam m_rows m_lineLength m_formattedLength m_bufferLength m_limit m_next m_beginsAt m_token m_error m_errorAt m_errorPosition m_nested m_codeCount)), (a_m_fam, .inl (cJ, 130, .inr (.inl m_fam)))] (some (.int (bI r9))) := by
  refine g_start (own := RX10) (by decide +kernel) rfl (Nat.le_of_ble_eq_true rfl) ?_
  intro p e s m below meth c A ls S hr hlocks hE hP hD hS hA hl hin
  have hx := S.1
  have hb := S.2.1
  have hml := S.2.2.1
  have hown := S.2.2.2.1
  have htg : ∀ z ∈ gw, z.before ([.ref (ad 0), .int v1, .int v2] : List Value).toArray s = true := fun w h => S.2.2.2.2 w (List.mem_cons_of_mem _ h)
  have hl : lv_has ls 3 [(0, .ref (ad 0)), (1, .int v1), (2, .int v2)] := hl
  have hS0 := hS
  obtain ⟨H, hH⟩ : ∃ H, H = s.heap := ⟨_, rfl⟩
  obtain ⟨locs, hlc⟩ : ∃ locs : List Loc, locs = [] := ⟨_, rfl⟩
  have hS : va_S A s.heap H locs := by rw [hH, hlc]; exact hS0
  have hP : va_P (dC, dI) vwCl [(ad 0, .inr (10, oM ad m_undoCount m_thrown m_hasSnapshot a_m_fam m_rows m_lineLength m_formattedLength m_bufferLength m_limit m_next m_beginsAt m_token m_error m_errorAt m_errorPosition m_nested m_codeCount)), (a_m_fam, .inl (cJ, 130, .inr (.inl m_fam)))] H := by rw [hH]; exact hP
  suffices hgo : W p l e ({ frames := 2, cells := 0, slots := 0, locals := 46 }) s m ([.ref (ad 0), .int v1, .int v2] : List Value).toArray below meth c H locs 0 0 (MQ below (gQ dC dI (some (.int (bI r9))) A [(ad 0, .inr (10, oM ad m_undoCount m_thrown_9 m_hasSnapshot a_m_fam m_rows m_lineLength m_formattedLength m_bufferLength m_limit m_next m_beginsAt m_token m_error m_errorAt m_errorPosition m_nested m_codeCount)), (a_m_fam, .inl (cJ, 130, .inr (.inl m_fam)))]) ([.ref (ad 0), .int v1, .int v2] : List Value).toArray s 0 0 A) (F0 m 0 ls []) by rw [hH, hlc] at hgo; exact hgo
  rw [p10_arePersons] at hf
  have J25 : ∀ (m_thrown_25 : Int32) (H : Heap) (locs : List Loc) (ls : Array Slot), p10_arePersons_J25 m_thrown_25 = some (r9, m_thrown_9) → va_P (dC, dI) vwCl [(ad 0, .inr (10, oM ad m_undoCount m_thrown_25 m_hasSnapshot a_m_fam m_rows m_lineLength m_formattedLength m_bufferLength m_limit m_next m_beginsAt m_token m_error m_errorAt m_errorPosition m_nested m_codeCount)), (a_m_fam, .inl (cJ, 130, .inr (.inl m_fam)))] H → va_D A [(ad 0, .inr (10, oM ad m_undoCount m_thrown_25 m_hasSnapshot a_m_fam m_rows m_lineLength m_formattedLength m_bufferLength m_limit m_next m_beginsAt m_token m_error m_errorAt m_errorPosition m_nested m_codeCount)), (a_m_fam, .inl (cJ, 130, .inr (.inl m_fam)))] → va_S A s.heap H locs → lv_has ls 3 [(0, .ref (ad 0))] → W p l e ({ frames := 2, cells := 0, slots := 0, locals := 46 }) s m ([.ref (ad 0), .int v1, .int v2] : List Value).toArray below meth c H locs 0 0 (MQ below (gQ dC dI (some (.int (bI r9))) A [(ad 0, .inr (10, oM ad m_undoCount m_thrown_9 m_hasSnapshot a_m_fam m_rows m_lineLength m_formattedLength m_bufferLength m_limit m_next m_beginsAt m_token m_error m_errorAt m_errorPosition m_nested m_codeCount)), (a_m_fam, .inl (cJ, 130, .inr (.inl m_fam)))]) ([.ref (ad 0), .int v1, .int v2] : List Value).toArray s 0 0 A) (F0 m 25 ls []) := by
    intro m_thrown_25 H locs ls hf hP hD hS hl
    rw [p10_arePersons_J25] at hf
    refine lv_aload_n hx hb dX10_arePersons_25 rfl (lv_at hl 0 rfl) ?_
    refine va_get (D := (dC, dI)) (ci := 10) (v := .int m_thrown_25) (C := RX10) (T := TX10) (N := 37) hx hb htg inX10 hown hE.1 hP 0 rfl rfl 5 (by decide) (htg _ tw1387) (fun _ h9 => h9) rfl dX10_arePersons_26 ?_
    refine lv_if_ne (tgt := 36) hx hb dX10_arePersons_29 (by decide) (fun h9 => ?_) (fun h9 => ?_)
    · have hf := itf h9 hf
      refine lv_iconst (v := 0) hx hb dX10_arePersons_36 (by decide) ?_
      cases hf
      exact g_zret S hr (nar_bI false) hlocks hP hD hS dX10_arePersons_37
    · have hf := itt h9 hf
      refine lv_iconst (v := 1) hx hb dX10_arePersons_32 (by decide) ?_
      refine lv_goto (tgt := 37) hx hb dX10_arePersons_33 (by decide) ?_
      cases hf
      exact g_zret S hr (nar_bI true) hlocks hP hD hS dX10_arePersons_37
  refine lv_aload_n hx hb dX10_arePersons_0 rfl (lv_at hl 0 rfl) ?_
  refine lv_aload_n hx hb dX10_arePersons_1 rfl (lv_at hl 0 rfl) ?_
  refine lv_iload_n hx hb dX10_arePersons_2 rfl (lv_at hl 1 rfl) ?_
  obtain ⟨r3, h9, hf⟩ := ob_s hf
  refine gcV (index := 234) S hE (c_X10_isPerson ad a_m_fam m_undoCount m_thrown m_hasSnapshot m_rows m_lineLength m_formattedLength m_bufferLength m_limit m_next m_beginsAt m_token m_error m_errorAt m_errorPosition m_nested m_codeCount m_fam v1 r3 h9) mX10_isPerson tw1576 ⟨Nat.le_of_ble_eq_true rfl, Nat.le_of_ble_eq_true rfl⟩ hP hD hS hA ⟨Nat.zero_le _, Nat.zero_le _⟩ 0 10 rfl rfl rfl (wr := []) [0, 1] [] rfl rfl rfl rfl (by decide) (As := [.int v1]) (rest := [.ref (ad 0)]) rfl hl.1 rfl (Nat.le_of_ble_eq_true rfl) dX10_arePersons_3 (fun H locs hP hD hS => ?_)
  refine W.eq (g2 := F0 m 6 ls [.int (bI r3), .ref (ad 0)]) rfl ?_
  have hP : va_P (dC, dI) vwCl [(ad 0, .inr (10, oM ad m_undoCount m_thrown m_hasSnapshot a_m_fam m_rows m_lineLength m_formattedLength m_bufferLength m_limit m_next m_beginsAt m_token m_error m_errorAt m_errorPosition m_nested m_codeCount)), (a_m_fam, .inl (cJ, 130, .inr (.inl m_fam)))] H := hP
  have hD : va_D A [(ad 0, .inr (10, oM ad m_undoCount m_thrown m_hasSnapshot a_m_fam m_rows m_lineLength m_formattedLength m_bufferLength m_limit m_next m_beginsAt m_token m_error m_errorAt m_errorPosition m_nested m_codeCount)), (a_m_fam, .inl (cJ, 130, .inr (.inl m_fam)))] := hD
  refine lv_if_eq (tgt := 21) hx hb dX10_arePersons_6 (by decide) (fun h9 => ?_) (fun h9 => ?_)
  · have hf := ctf (bI_0 h9) hf
    refine lv_iconst (v := 1) hx hb dX10_arePersons_21 (by decide) ?_
    refine va_put (D := (dC, dI)) (ci := 10) (v := .int (1 : Int32)) (ty := .int) (C := RX10) (T := TX10) (N := 37) hx hb htg inX10 tyX10 tyX10_ok nmX10 hown hE.1 hP hD hS 0 rfl rfl 5 (by decide) (htg _ tw1387) (fun _ h9 => h9) rfl (by decide +kernel) rfl rfl (Nat.le_of_ble_eq_true rfl) dX10_arePersons_22 (fun H locs hP hD hS => ?_)
    have hP : va_P (dC, dI) vwCl [(ad 0, .inr (10, oM ad m_undoCount (1 : Int32) m_hasSnapshot a_m_fam m_rows m_lineLength m_formattedLength m_bufferLength m_limit m_next m_beginsAt m_token m_error m_errorAt m_errorPosition m_nested m_codeCount)), (a_m_fam, .inl (cJ, 130, .inr (.inl m_fam)))] H := hP
    have hD : va_D A [(ad 0, .inr (10, oM ad m_undoCount (1 : Int32) m_hasSnapshot a_m_fam m_rows m_lineLength m_formattedLength m_bufferLength m_limit m_next m_beginsAt m_token m_error m_errorAt m_errorPosition m_nested m_codeCount)), (a_m_fam, .inl (cJ, 130, .inr (.inl m_fam)))] := hD
    exact J25 (1 : Int32) H locs ls hf hP hD hS (lv_sub hl [0] rfl)
  · have hf := ctt (bI_1 h9) hf
    refine lv_aload_n hx hb dX10_arePersons_9 rfl (lv_at hl 0 rfl) ?_
    refine lv_iload_n hx hb dX10_arePersons_10 rfl (lv_at hl 2 rfl) ?_
    obtain ⟨r11, h9, hf⟩ := ob_s hf
    refine gcV (index := 234) S hE (c_X10_isPerson ad a_m_fam m_undoCount m_thrown m_hasSnapshot m_rows m_lineLength m_formattedLength m_bufferLength m_limit m_next m_beginsAt m_token m_error m_errorAt m_errorPosition m_nested m_codeCount m_fam v2 r11 h9) mX10_isPerson tw1576 ⟨Nat.le_of_ble_eq_true rfl, Nat.le_of_ble_eq_true rfl⟩ hP hD hS hA ⟨Nat.zero_le _, Nat.zero_le _⟩ 0 10 rfl rfl rfl (wr := []) [0, 1] [] rfl rfl rfl rfl (by decide) (As := [.int v2]) (rest := [.ref (ad 0)]) rfl hl.1 rfl (Nat.le_of_ble_eq_true rfl) dX10_arePersons_11 (fun H locs hP hD hS => ?_)
    refine W.eq (g2 := F0 m 14 ls [.int (bI r11), .ref (ad 0)]) rfl ?_
    have hP : va_P (dC, dI) vwCl [(ad 0, .inr (10, oM ad m_undoCount m_thrown m_hasSnapshot a_m_fam m_rows m_lineLength m_formattedLength m_bufferLength m_limit m_next m_beginsAt m_token m_error m_errorAt m_errorPosition m_nested m_codeCount)), (a_m_fam, .inl (cJ, 130, .inr (.inl m_fam)))] H := hP
    have hD : va_D A [(ad 0, .inr (10, oM ad m_undoCount m_thrown m_hasSnapshot a_m_fam m_rows m_lineLength m_formattedLength m_bufferLength m_limit m_next m_beginsAt m_token m_error m_errorAt m_errorPosition m_nested m_codeCount)), (a_m_fam, .inl (cJ, 130, .inr (.inl m_fam)))] := hD
    refine lv_if_eq (tgt := 21) hx hb dX10_arePersons_14 (by decide) (fun h9 => ?_) (fun h9 => ?_)
    · have hf := ctf (bI_0 h9) hf
      refine lv_iconst (v := 1) hx hb dX10_arePersons_21 (by decide) ?_
      refine va_put (D := (dC, dI)) (ci := 10) (v := .int (1 : Int32)) (ty := .int) (C := RX10) (T := TX10) (N := 37) hx hb htg inX10 tyX10 tyX10_ok nmX10 hown hE.1 hP hD hS 0 rfl rfl 5 (by decide) (htg _ tw1387) (fun _ h9 => h9) rfl (by decide +kernel) rfl rfl (Nat.le_of_ble_eq_true rfl) dX10_arePersons_22 (fun H locs hP hD hS => ?_)
      have hP : va_P (dC, dI) vwCl [(ad 0, .inr (10, oM ad m_undoCount (1 : Int32) m_hasSnapshot a_m_fam m_rows m_lineLength m_formattedLength m_bufferLength m_limit m_next m_beginsAt m_token m_error m_errorAt m_errorPosition m_nested m_codeCount)), (a_m_fam, .inl (cJ, 130, .inr (.inl m_fam)))] H := hP
      have hD : va_D A [(ad 0, .inr (10, oM ad m_undoCount (1 : Int32) m_hasSnapshot a_m_fam m_rows m_lineLength m_formattedLength m_bufferLength m_limit m_next m_beginsAt m_token m_error m_errorAt m_errorPosition m_nested m_codeCount)), (a_m_fam, .inl (cJ, 130, .inr (.inl m_fam)))] := hD
      exact J25 (1 : Int32) H locs ls hf hP hD hS (lv_sub hl [0] rfl)
    · have hf := ctt (bI_1 h9) hf
      refine lv_iconst (v := 0) hx hb dX10_arePersons_17 (by decide) ?_
      refine lv_goto (tgt := 22) hx hb dX10_arePersons_18 (by decide) ?_
      refine va_put (D := (dC, dI)) (ci := 10) (v := .int (0 : Int32)) (ty := .int) (C := RX10) (T := TX10) (N := 37) hx hb htg inX10 tyX10 tyX10_ok nmX10 hown hE.1 hP hD hS 0 rfl rfl 5 (by decide) (htg _ tw1387) (fun _ h9 => h9) rfl (by decide +kernel) rfl rfl (Nat.le_of_ble_eq_true rfl) dX10_arePersons_22 (fun H locs hP hD hS => ?_)
      have hP : va_P (dC, dI) vwCl [(ad 0, .inr (10, oM ad m_undoCount (0 : Int32) m_hasSnapshot a_m_fam m_rows m_lineLength m_formattedLength m_bufferLength m_limit m_next m_beginsAt m_token m_error m_errorAt m_errorPosition m_nested m_codeCount)), (a_m_fam, .inl (cJ, 130, .inr (.inl m_fam)))] H := hP
      have hD : va_D A [(ad 0, .inr (10, oM ad m_undoCount (0 : Int32) m_hasSnapshot a_m_fam m_rows m_lineLength m_formattedLength m_bufferLength m_limit m_next m_beginsAt m_token m_error m_errorAt m_errorPosition m_nested m_codeCount)), (a_m_fam, .inl (cJ, 130, .inr (.inl m_fam)))] := hD
      exact J25 (0 : Int32) H locs ls hf hP hD hS (lv_sub hl [0] rfl)
set_option maxHeartbeats 4000000 in
set_option maxRecDepth 100000 in
theorem c_X10_isParent (ad : Nat → Nat) (a_m_fam : Nat) (m_undoCount : Int32) (m_thrown : Int32) (m_hasSnapshot : Bool) (m_rows : Int32) (m_lineLength : Int32) (m_formattedLength : Int32) (m_bufferLength : Int32) (m_limit : Int32) (m_next : Int32) (m_beginsAt : Int32) (m_token : Int32) (m_error : Int32) (m_errorAt : Int32) (m_errorPosition : Int32) (m_nested : Int32) (m_codeCount : Int32) (m_fam : Nat → Int64) (v1 : Int32) (v2 : Int32) (r9 : Bool) (hf : p10_isParent m_fam v1 v2 = some r9) : gM l dC dI cI cJ cZ yX10_isParent cX10_isParent 3 (some .boolean) (2) (44) [.ref (ad 0), .int v1, .int v2] [(ad 0, .inr (10, oM ad m_undoCount m_thrown m_hasSnapshot a_m_fam m_rows m_lineLength m_formattedLength m_bufferLength m_limit m_next m_beginsAt m_token m_error m_errorAt m_errorPosition m_nested m_codeCount)), (a_m_fam, .inl (cJ, 130, .inr (.inl m_fam)))] [(ad 0, .inr (10, oM ad m_undoCount m_thrown m_hasSnapshot a_m_fam m_rows m_lineLength m_formattedLength m_bufferLength m_limit m_next m_beginsAt m_token m_error m_errorAt m_errorPosition m_nested m_codeCount)), (a_m_fam, .inl (cJ, 130, .inr (.inl m_fam)))] (some (.int (bI r9))) := by
  refine g_start (own := RX10) (by decide +kernel) rfl (Nat.le_of_ble_eq_true rfl) ?_
  intro p e s m below meth c A ls S hr hlocks hE hP hD hS hA hl hin
  have hx := S.1
  have hb := S.2.1
  have hml := S.2.2.1
  have hown := S.2.2.2.1
  have htg : ∀ z ∈ gw, z.before ([.ref (ad 0), .int v1, .int v2] : List Value).toArray s = true := fun w h => S.2.2.2.2 w (List.mem_cons_of_mem _ h)
  have hl : lv_has ls 3 [(0, .ref (ad 0)), (1, .int v1), (2, .int v2)] := hl
  have hS0 := hS
  obtain ⟨H, hH⟩ : ∃ H, H = s.heap := ⟨_, rfl⟩
  obtain ⟨locs, hlc⟩ : ∃ locs : List Loc, locs = [] := ⟨_, rfl⟩
  have hS : va_S A s.heap H locs := by rw [hH, hlc]; exact hS0
  have hP : va_P (dC, dI) vwCl [(ad 0, .inr (10, oM ad m_undoCount m_thrown m_hasSnapshot a_m_fam m_rows m_lineLength m_formattedLength m_bufferLength m_limit m_next m_beginsAt m_token m_error m_errorAt m_errorPosition m_nested m_codeCount)), (a_m_fam, .inl (cJ, 130, .inr (.inl m_fam)))] H := by rw [hH]; exact hP
  suffices hgo : W p l e ({ frames := 2, cells := 0, slots := 0, locals := 44 }) s m ([.ref (ad 0), .int v1, .int v2] : List Value).toArray below meth c H locs 0 0 (MQ below (gQ dC dI (some (.int (bI r9))) A [(ad 0, .inr (10, oM ad m_undoCount m_thrown m_hasSnapshot a_m_fam m_rows m_lineLength m_formattedLength m_bufferLength m_limit m_next m_beginsAt m_token m_error m_errorAt m_errorPosition m_nested m_codeCount)), (a_m_fam, .inl (cJ, 130, .inr (.inl m_fam)))]) ([.ref (ad 0), .int v1, .int v2] : List Value).toArray s 0 0 A) (F0 m 0 ls []) by rw [hH, hlc] at hgo; exact hgo
  rw [p10_isParent] at hf
  refine lv_aload_n hx hb dX10_isParent_0 rfl (lv_at hl 0 rfl) ?_
  refine lv_iload_n hx hb dX10_isParent_1 rfl (lv_at hl 2 rfl) ?_
  obtain ⟨r2, h9, hf⟩ := ob_s hf
  refine gcV (index := 117) S hE (c_X10_parentsOf ad a_m_fam m_undoCount m_thrown m_hasSnapshot m_rows m_lineLength m_formattedLength m_bufferLength m_limit m_next m_beginsAt m_token m_error m_errorAt m_errorPosition m_nested m_codeCount m_fam v2 r2 h9) mX10_parentsOf tw1515 ⟨Nat.le_of_ble_eq_true rfl, Nat.le_of_ble_eq_true rfl⟩ hP hD hS hA ⟨Nat.zero_le _, Nat.zero_le _⟩ 0 10 rfl rfl rfl (wr := []) [0, 1] [] rfl rfl rfl rfl (by decide) (As := [.int v2]) (rest := []) rfl hl.1 rfl (Nat.le_of_ble_eq_true rfl) dX10_isParent_2 (fun H locs hP hD hS => ?_)
  refine W.eq (g2 := F0 m 5 ls [.int r2]) rfl ?_
  have hP : va_P (dC, dI) vwCl [(ad 0, .inr (10, oM ad m_undoCount m_thrown m_hasSnapshot a_m_fam m_rows m_lineLength m_formattedLength m_bufferLength m_limit m_next m_beginsAt m_token m_error m_errorAt m_errorPosition m_nested m_codeCount)), (a_m_fam, .inl (cJ, 130, .inr (.inl m_fam)))] H := hP
  have hD : va_D A [(ad 0, .inr (10, oM ad m_undoCount m_thrown m_hasSnapshot a_m_fam m_rows m_lineLength m_formattedLength m_bufferLength m_limit m_next m_beginsAt m_token m_error m_errorAt m_errorPosition m_nested m_codeCount)), (a_m_fam, .inl (cJ, 130, .inr (.inl m_fam)))] := hD
  refine lv_iconst (v := -1) hx hb dX10_isParent_5 (by decide) ?_
  refine lv_icmp_eq (tgt := 26) hx hb dX10_isParent_6 (by decide) (fun h9 => ?_) (fun h9 => ?_)
  · have hf := itt h9 hf
    refine lv_iconst (v := 0) hx hb dX10_isParent_26 (by decide) ?_
    cases hf
    exact g_zret S hr (nar_bI false) hlocks hP hD hS dX10_isParent_27
  · have hf := itf h9 hf
    refine lv_aload_n hx hb dX10_isParent_9 rfl (lv_at hl 0 rfl) ?_
    refine lv_aload_n hx hb dX10_isParent_10 rfl (lv_at hl 0 rfl) ?_
    refine lv_iload_n hx hb dX10_isParent_11 rfl (lv_at hl 2 rfl) ?_
    obtain ⟨r12, h9, hf⟩ := ob_s hf
    refine gcV (index := 117) S hE (c_X10_parentsOf ad a_m_fam m_undoCount m_thrown m_hasSnapshot m_rows m_lineLength m_formattedLength m_bufferLength m_limit m_next m_beginsAt m_token m_error m_errorAt m_errorPosition m_nested m_codeCount m_fam v2 r12 h9) mX10_parentsOf tw1515 ⟨Nat.le_of_ble_eq_true rfl, Nat.le_of_ble_eq_true rfl⟩ hP hD hS hA ⟨Nat.zero_le _, Nat.zero_le _⟩ 0 10 rfl rfl rfl (wr := []) [0, 1] [] rfl rfl rfl rfl (by decide) (As := [.int v2]) (rest := [.ref (ad 0)]) rfl hl.1 rfl (Nat.le_of_ble_eq_true rfl) dX10_isParent_12 (fun H locs hP hD hS => ?_)
    refine W.eq (g2 := F0 m 15 ls [.int r12, .ref (ad 0)]) rfl ?_
    have hP : va_P (dC, dI) vwCl [(ad 0, .inr (10, oM ad m_undoCount m_thrown m_hasSnapshot a_m_fam m_rows m_lineLength m_formattedLength m_bufferLength m_limit m_next m_beginsAt m_token m_error m_errorAt m_errorPosition m_nested m_codeCount)), (a_m_fam, .inl (cJ, 130, .inr (.inl m_fam)))] H := hP
    have hD : va_D A [(ad 0, .inr (10, oM ad m_undoCount m_thrown m_hasSnapshot a_m_fam m_rows m_lineLength m_formattedLength m_bufferLength m_limit m_next m_beginsAt m_token m_error m_errorAt m_errorPosition m_nested m_codeCount)), (a_m_fam, .inl (cJ, 130, .inr (.inl m_fam)))] := hD
    refine lv_iload_n hx hb dX10_isParent_15 rfl (lv_at hl 1 rfl) ?_
    obtain ⟨r16, h9, hf⟩ := ob_s hf
    refine gcV (index := 113) S hE (c_X10_isPartner ad a_m_fam m_undoCount m_thrown m_hasSnapshot m_rows m_lineLength m_formattedLength m_bufferLength m_limit m_next m_beginsAt m_token m_error m_errorAt m_errorPosition m_nested m_codeCount m_fam r12 v1 r16 h9) mX10_isPartner tw1564 ⟨Nat.le_of_ble_eq_true rfl, Nat.le_of_ble_eq_true rfl⟩ hP hD hS hA ⟨Nat.zero_le _, Nat.zero_le _⟩ 0 10 rfl rfl rfl (wr := []) [0, 1] [] rfl rfl rfl rfl (by decide) (As := [.int r12, .int v1]) (rest := []) rfl hl.1 rfl (Nat.le_of_ble_eq_true rfl) dX10_isParent_16 (fun H locs hP hD hS => ?_)
    refine W.eq (g2 := F0 m 19 ls [.int (bI r16)]) rfl ?_
    have hP : va_P (dC, dI) vwCl [(ad 0, .inr (10, oM ad m_undoCount m_thrown m_hasSnapshot a_m_fam m_rows m_lineLength m_formattedLength m_bufferLength m_limit m_next m_beginsAt m_token m_error m_errorAt m_errorPosition m_nested m_codeCount)), (a_m_fam, .inl (cJ, 130, .inr (.inl m_fam)))] H := hP
    have hD : va_D A [(ad 0, .inr (10, oM ad m_undoCount m_thrown m_hasSnapshot a_m_fam m_rows m_lineLength m_formattedLength m_bufferLength m_limit m_next m_beginsAt m_token m_error m_errorAt m_errorPosition m_nested m_codeCount)), (a_m_fam, .inl (cJ, 130, .inr (.inl m_fam)))] := hD
    refine lv_if_eq (tgt := 26) hx hb dX10_isParent_19 (by decide) (fun h9 => ?_) (fun h9 => ?_)
    · have hf := ctf (bI_0 h9) hf
      refine lv_iconst (v := 0) hx hb dX10_isParent_26 (by decide) ?_
      cases hf
      exact g_zret S hr (nar_bI false) hlocks hP hD hS dX10_isParent_27
    · have hf := ctt (bI_1 h9) hf
      refine lv_iconst (v := 1) hx hb dX10_isParent_22 (by decide) ?_
      refine lv_goto (tgt := 27) hx hb dX10_isParent_23 (by decide) ?_
      cases hf
      exact g_zret S hr (nar_bI true) hlocks hP hD hS dX10_isParent_27
end G_31_FamilyChartModel01
