section G_31_FamilyChartModel02
variable {l : Launch} {dC : Nat → ClassId} {dI : Nat → Nat → Nat} {cI cJ cZ : ClassId} {adK adV : Nat → Nat}
def p10_descendantMask_J32 (v2_32 : Int32) : Option (Int32) := some v2_32
def p10_descendantMask_L4_B (m_fam : Nat → Int64) (v1 : Int32) (k4 : Int32 → Int32 → Option (Int32)) (v2_4 : Int32) (v3_4 : Int32) : Option (Int32) := ob (p10_persons m_fam) (fun r6 => (if r6 ≤ v3_4 then some v2_4 else ob (p10_ancestorMask m_fam v3_4) (fun r15 => lb (v2_4 ||| (((r15 >>> (v1 &&& 31)) &&& (1 : Int32)) <<< (v3_4 &&& 31))) (fun t25 => lb (v3_4 + (1 : Int32)) (fun t26 => (k4 t25 t26))))))
def p10_descendantMask_L4 (m_fam : Nat → Int64) (v1 : Int32) : Nat → Int32 → Int32 → Option (Int32)
  | 0, _, _ => none
  | n+1, v2_4, v3_4 => p10_descendantMask_L4_B m_fam v1 (p10_descendantMask_L4 m_fam v1 n) v2_4 v3_4
def p10_descendantMask (m_fam : Nat → Int64) (v1 : Int32) : Option (Int32) := (ob (p10_descendantMask_L4 m_fam v1 FU (0 : Int32) (0 : Int32)) (fun v2_x4 => p10_descendantMask_J32 v2_x4))
set_option maxHeartbeats 4000000 in
set_option maxRecDepth 100000 in
theorem c_X10_descendantMask (ad : Nat → Nat) (a_m_fam : Nat) (m_undoCount : Int32) (m_thrown : Int32) (m_hasSnapshot : Bool) (m_rows : Int32) (m_lineLength : Int32) (m_formattedLength : Int32) (m_bufferLength : Int32) (m_limit : Int32) (m_next : Int32) (m_beginsAt : Int32) (m_token : Int32) (m_error : Int32) (m_errorAt : Int32) (m_errorPosition : Int32) (m_nested : Int32) (m_codeCount : Int32) (m_fam : Nat → Int64) (v1 : Int32) (r9 : Int32) (hf : p10_descendantMask m_fam v1 = some r9) : gM l dC dI cI cJ cZ yX10_descendantMask cX10_descendantMask 4 (some .int) (3) (70) [.ref (ad 0), .int v1] [(ad 0, .inr (10, oM ad m_undoCount m_thrown m_hasSnapshot a_m_fam m_rows m_lineLength m_formattedLength m_bufferLength m_limit m_next m_beginsAt m_token m_error m_errorAt m_errorPosition m_nested m_codeCount)), (a_m_fam, .inl (cJ, 130, .inr (.inl m_fam)))] [(ad 0, .inr (10, oM ad m_undoCount m_thrown m_hasSnapshot a_m_fam m_rows m_lineLength m_formattedLength m_bufferLength m_limit m_next m_beginsAt m_token m_error m_errorAt m_errorPosition m_nested m_codeCount)), (a_m_fam, .inl (cJ, 130, .inr (.inl m_fam)))] (some (.int r9)) := by
  refine g_start (own := RX10) (by decide +kernel) rfl (Nat.le_of_ble_eq_true rfl) ?_
  intro p e s m below meth c A ls S hr hlocks hE hP hD hS hA hl hin
  have hx := S.1
  have hb := S.2.1
  have hml := S.2.2.1
  have hown := S.2.2.2.1
  have htg : ∀ z ∈ gw, z.before ([.ref (ad 0), .int v1] : List Value).toArray s = true := fun w h => S.2.2.2.2 w (List.mem_cons_of_mem _ h)
  have hl : lv_has ls 4 [(0, .ref (ad 0)), (1, .int v1)] := hl
  have hS0 := hS
  obtain ⟨H, hH⟩ : ∃ H, H = s.heap := ⟨_, rfl⟩
  obtain ⟨locs, hlc⟩ : ∃ locs : List Loc, locs = [] := ⟨_, rfl⟩
  have hS : va_S A s.heap H locs := by rw [hH, hlc]; exact hS0
  have hP : va_P (dC, dI) vwCl [(ad 0, .inr (10, oM ad m_undoCount m_thrown m_hasSnapshot a_m_fam m_rows m_lineLength m_formattedLength m_bufferLength m_limit m_next m_beginsAt m_token m_error m_errorAt m_errorPosition m_nested m_codeCount)), (a_m_fam, .inl (cJ, 130, .inr (.inl m_fam)))] H := by rw [hH]; exact hP
  suffices hgo : W p l e ({ frames := 3, cells := 0, slots := 0, locals := 70 }) s m ([.ref (ad 0), .int v1] : List Value).toArray below meth c H locs 0 0 (MQ below (gQ dC dI (some (.int r9)) A [(ad 0, .inr (10, oM ad m_undoCount m_thrown m_hasSnapshot a_m_fam m_rows m_lineLength m_formattedLength m_bufferLength m_limit m_next m_beginsAt m_token m_error m_errorAt m_errorPosition m_nested m_codeCount)), (a_m_fam, .inl (cJ, 130, .inr (.inl m_fam)))]) ([.ref (ad 0), .int v1] : List Value).toArray s 0 0 A) (F0 m 0 ls []) by rw [hH, hlc] at hgo; exact hgo
  rw [p10_descendantMask] at hf
  have J32 : ∀ (v2_32 : Int32) (H : Heap) (locs : List Loc) (ls : Array Slot), p10_descendantMask_J32 v2_32 = some r9 → va_P (dC, dI) vwCl [(ad 0, .inr (10, oM ad m_undoCount m_thrown m_hasSnapshot a_m_fam m_rows m_lineLength m_formattedLength m_bufferLength m_limit m_next m_beginsAt m_token m_error m_errorAt m_errorPosition m_nested m_codeCount)), (a_m_fam, .inl (cJ, 130, .inr (.inl m_fam)))] H → va_D A [(ad 0, .inr (10, oM ad m_undoCount m_thrown m_hasSnapshot a_m_fam m_rows m_lineLength m_formattedLength m_bufferLength m_limit m_next m_beginsAt m_token m_error m_errorAt m_errorPosition m_nested m_codeCount)), (a_m_fam, .inl (cJ, 130, .inr (.inl m_fam)))] → va_S A s.heap H locs → lv_has ls 4 [(2, .int v2_32)] → W p l e ({ frames := 3, cells := 0, slots := 0, locals := 70 }) s m ([.ref (ad 0), .int v1] : List Value).toArray below meth c H locs 0 0 (MQ below (gQ dC dI (some (.int r9)) A [(ad 0, .inr (10, oM ad m_undoCount m_thrown m_hasSnapshot a_m_fam m_rows m_lineLength m_formattedLength m_bufferLength m_limit m_next m_beginsAt m_token m_error m_errorAt m_errorPosition m_nested m_codeCount)), (a_m_fam, .inl (cJ, 130, .inr (.inl m_fam)))]) ([.ref (ad 0), .int v1] : List Value).toArray s 0 0 A) (F0 m 32 ls []) := by
    intro v2_32 H locs ls hf hP hD hS hl
    rw [p10_descendantMask_J32] at hf
    refine lv_iload_n hx hb dX10_descendantMask_32 rfl (lv_at hl 0 rfl) ?_
    cases hf
    exact g_iret S hr hlocks hP hD hS dX10_descendantMask_33
  refine lv_iconst (v := 0) hx hb dX10_descendantMask_0 (by decide) ?_
  refine lv_istore_n (lv' := [(2, .int (0 : Int32)), (0, .ref (ad 0)), (1, .int v1)]) hx hb dX10_descendantMask_1 rfl hl (by decide) rfl (fun ls hl => ?_)
  refine lv_iconst (v := 0) hx hb dX10_descendantMask_2 (by decide) ?_
  refine lv_istore_n (lv' := [(3, .int (0 : Int32)), (2, .int (0 : Int32)), (0, .ref (ad 0)), (1, .int v1)]) hx hb dX10_descendantMask_3 rfl hl (by decide) rfl (fun ls hl => ?_)
  have K4 : ∀ (n4 : Nat) (v2_4 : Int32) (v3_4 : Int32) (ex4 : Int32) (H : Heap) (locs : List Loc) (ls : Array Slot), p10_descendantMask_L4 m_fam v1 n4 v2_4 v3_4 = some ex4 → (fun v2_x4 => p10_descendantMask_J32 v2_x4) ex4 = some r9 → va_P (dC, dI) vwCl [(ad 0, .inr (10, oM ad m_undoCount m_thrown m_hasSnapshot a_m_fam m_rows m_lineLength m_formattedLength m_bufferLength m_limit m_next m_beginsAt m_token m_error m_errorAt m_errorPosition m_nested m_codeCount)), (a_m_fam, .inl (cJ, 130, .inr (.inl m_fam)))] H → va_D A [(ad 0, .inr (10, oM ad m_undoCount m_thrown m_hasSnapshot a_m_fam m_rows m_lineLength m_formattedLength m_bufferLength m_limit m_next m_beginsAt m_token m_error m_errorAt m_errorPosition m_nested m_codeCount)), (a_m_fam, .inl (cJ, 130, .inr (.inl m_fam)))] → va_S A s.heap H locs → lv_has ls 4 [(0, .ref (ad 0)), (1, .int v1), (2, .int v2_4), (3, .int v3_4)] → W p l e ({ frames := 3, cells := 0, slots := 0, locals := 70 }) s m ([.ref (ad 0), .int v1] : List Value).toArray below meth c H locs 0 0 (MQ below (gQ dC dI (some (.int r9)) A [(ad 0, .inr (10, oM ad m_undoCount m_thrown m_hasSnapshot a_m_fam m_rows m_lineLength m_formattedLength m_bufferLength m_limit m_next m_beginsAt m_token m_error m_errorAt m_errorPosition m_nested m_codeCount)), (a_m_fam, .inl (cJ, 130, .inr (.inl m_fam)))]) ([.ref (ad 0), .int v1] : List Value).toArray s 0 0 A) (F0 m 4 ls []) := by
    intro n4
    induction n4 with
    | zero => intro v2_4 v3_4 ex4 H locs ls hf; rw [p10_descendantMask_L4] at hf; cases hf
    | succ n4 ih4 =>
      intro v2_4 v3_4 ex4 H locs ls hf hk4 hP hD hS hl
      rw [p10_descendantMask_L4, p10_descendantMask_L4_B] at hf
      refine lv_iload_n hx hb dX10_descendantMask_4 rfl (lv_at hl 3 rfl) ?_
      refine lv_aload_n hx hb dX10_descendantMask_5 rfl (lv_at hl 0 rfl) ?_
      obtain ⟨r6, h9, hf⟩ := ob_s hf
      refine gcV (index := 121) S hE (c_X10_persons ad a_m_fam m_undoCount m_thrown m_hasSnapshot m_rows m_lineLength m_formattedLength m_bufferLength m_limit m_next m_beginsAt m_token m_error m_errorAt m_errorPosition m_nested m_codeCount m_fam r6 h9) mX10_persons tw1511 ⟨Nat.le_of_ble_eq_true rfl, Nat.le_of_ble_eq_true rfl⟩ hP hD hS hA ⟨Nat.zero_le _, Nat.zero_le _⟩ 0 10 rfl rfl rfl (wr := []) [0, 1] [] rfl rfl rfl rfl (by decide) (As := []) (rest := [.int v3_4]) rfl hl.1 rfl (Nat.le_of_ble_eq_true rfl) dX10_descendantMask_6 (fun H locs hP hD hS => ?_)
      refine W.eq (g2 := F0 m 9 ls [.int r6, .int v3_4]) rfl ?_
      have hP : va_P (dC, dI) vwCl [(ad 0, .inr (10, oM ad m_undoCount m_thrown m_hasSnapshot a_m_fam m_rows m_lineLength m_formattedLength m_bufferLength m_limit m_next m_beginsAt m_token m_error m_errorAt m_errorPosition m_nested m_codeCount)), (a_m_fam, .inl (cJ, 130, .inr (.inl m_fam)))] H := hP
      have hD : va_D A [(ad 0, .inr (10, oM ad m_undoCount m_thrown m_hasSnapshot a_m_fam m_rows m_lineLength m_formattedLength m_bufferLength m_limit m_next m_beginsAt m_token m_error m_errorAt m_errorPosition m_nested m_codeCount)), (a_m_fam, .inl (cJ, 130, .inr (.inl m_fam)))] := hD
      refine lv_icmp_ge (tgt := 32) hx hb dX10_descendantMask_9 (by decide) (fun h9 => ?_) (fun h9 => ?_)
      · have hf := itt h9 hf
        cases hf
        have hf := hk4
        exact J32 v2_4 H locs ls hf hP hD hS (lv_sub hl [2] rfl)
      · have hf := itf h9 hf
        refine lv_iload_n hx hb dX10_descendantMask_12 rfl (lv_at hl 2 rfl) ?_
        refine lv_aload_n hx hb dX10_descendantMask_13 rfl (lv_at hl 0 rfl) ?_
        refine lv_iload_n hx hb dX10_descendantMask_14 rfl (lv_at hl 3 rfl) ?_
        obtain ⟨r15, h9, hf⟩ := ob_s hf
        refine gcV (index := 254) S hE (c_X10_ancestorMask ad a_m_fam m_undoCount m_thrown m_hasSnapshot m_rows m_lineLength m_formattedLength m_bufferLength m_limit m_next m_beginsAt m_token m_error m_errorAt m_errorPosition m_nested m_codeCount m_fam v3_4 r15 h9) mX10_ancestorMask tw1648 ⟨Nat.le_of_ble_eq_true rfl, Nat.le_of_ble_eq_true rfl⟩ hP hD hS hA ⟨Nat.zero_le _, Nat.zero_le _⟩ 0 10 rfl rfl rfl (wr := []) [0, 1] [] rfl rfl rfl rfl (by decide) (As := [.int v3_4]) (rest := [.int v2_4]) rfl hl.1 rfl (Nat.le_of_ble_eq_true rfl) dX10_descendantMask_15 (fun H locs hP hD hS => ?_)
        refine W.eq (g2 := F0 m 18 ls [.int r15, .int v2_4]) rfl ?_
        have hP : va_P (dC, dI) vwCl [(ad 0, .inr (10, oM ad m_undoCount m_thrown m_hasSnapshot a_m_fam m_rows m_lineLength m_formattedLength m_bufferLength m_limit m_next m_beginsAt m_token m_error m_errorAt m_errorPosition m_nested m_codeCount)), (a_m_fam, .inl (cJ, 130, .inr (.inl m_fam)))] H := hP
        have hD : va_D A [(ad 0, .inr (10, oM ad m_undoCount m_thrown m_hasSnapshot a_m_fam m_rows m_lineLength m_formattedLength m_bufferLength m_limit m_next m_beginsAt m_token m_error m_errorAt m_errorPosition m_nested m_codeCount)), (a_m_fam, .inl (cJ, 130, .inr (.inl m_fam)))] := hD
        refine lv_iload_n hx hb dX10_descendantMask_18 rfl (lv_at hl 1 rfl) ?_
        refine lv_ishr hx hb dX10_descendantMask_19 ?_
        refine lv_iconst (v := 1) hx hb dX10_descendantMask_20 (by decide) ?_
        refine lv_iand hx hb dX10_descendantMask_21 ?_
        refine lv_iload_n hx hb dX10_descendantMask_22 rfl (lv_at hl 3 rfl) ?_
        refine lv_ishl hx hb dX10_descendantMask_23 ?_
        refine lv_ior hx hb dX10_descendantMask_24 ?_
        refine lv_topi (fun t25 h9 => ?_)
        have hf := lb_e h9 hf
        refine lv_istore_n (lv' := [(2, .int t25), (0, .ref (ad 0)), (1, .int v1), (3, .int v3_4)]) hx hb dX10_descendantMask_25 rfl hl (by decide) rfl (fun ls hl => ?_)
        obtain ⟨t26, h9⟩ : ∃ z : Int32, z = (v3_4 + (1 : Int32)) := ⟨_, rfl⟩
        have hf := lb_e h9 hf
        refine lv_iinc (v := t26) (lv' := [(3, .int t26), (2, .int t25), (0, .ref (ad 0)), (1, .int v1)]) hx hb dX10_descendantMask_26 hl (k := 3) rfl (by rw [h9]; rfl) (by decide) rfl (fun ls hl => ?_)
        refine lv_goto (tgt := 4) hx hb dX10_descendantMask_29 (by decide) ?_
        exact ih4 t25 t26 ex4 H locs ls hf hk4 hP hD hS (lv_sub hl [2, 3, 1, 0] rfl)
  obtain ⟨ex, h9, hf⟩ := ob_s hf
  exact K4 FU (0 : Int32) (0 : Int32) ex H locs ls h9 hf hP hD hS (lv_sub hl [2, 3, 1, 0] rfl)
def p10_descendants (m_fam : Nat → Int64) (v1 : Int32) : Option (Int32 × Int32) := ob (p10_isPerson m_fam v1) (fun r7 => (cond r7 (ob (p10_descendantMask m_fam v1) (fun r15 => some (r15, (0 : Int32)))) (lb (p10_raise (1 : Int32)) (uc2 fun r23 m_thrown_23 => some (r23, m_thrown_23)))))
set_option maxHeartbeats 4000000 in
set_option maxRecDepth 100000 in
theorem c_X10_descendants (ad : Nat → Nat) (a_m_fam : Nat) (m_undoCount : Int32) (m_thrown : Int32) (m_hasSnapshot : Bool) (m_rows : Int32) (m_lineLength : Int32) (m_formattedLength : Int32) (m_bufferLength : Int32) (m_limit : Int32) (m_next : Int32) (m_beginsAt : Int32) (m_token : Int32) (m_error : Int32) (m_errorAt : Int32) (m_errorPosition : Int32) (m_nested : Int32) (m_codeCount : Int32) (m_fam : Nat → Int64) (v1 : Int32) (r9 : Int32) (m_thrown_9 : Int32) (hf : p10_descendants m_fam v1 = some (r9, m_thrown_9)) : gM l dC dI cI cJ cZ yX10_descendants cX10_descendants 2 (some .int) (4) (93) [.ref (ad 0), .int v1] [(ad 0, .inr (10, oM ad m_undoCount m_thrown m_hasSnapshot a_m_fam m_rows m_lineLength m_formattedLength m_bufferLength m_limit m_next m_beginsAt m_token m_error m_errorAt m_errorPosition m_nested m_codeCount)), (a_m_fam, .inl (cJ, 130, .inr (.inl m_fam)))] [(ad 0, .inr (10, oM ad m_undoCount m_thrown_9 m_hasSnapshot a_m_fam m_rows m_lineLength m_formattedLength m_bufferLength m_limit m_next m_beginsAt m_token m_error m_errorAt m_errorPosition m_nested m_codeCount)), (a_m_fam, .inl (cJ, 130, .inr (.inl m_fam)))] (some (.int r9)) := by
  refine g_start (own := RX10) (by decide +kernel) rfl (Nat.le_of_ble_eq_true rfl) ?_
  intro p e s m below meth c A ls S hr hlocks hE hP hD hS hA hl hin
  have hx := S.1
  have hb := S.2.1
  have hml := S.2.2.1
  have hown := S.2.2.2.1
  have htg : ∀ z ∈ gw, z.before ([.ref (ad 0), .int v1] : List Value).toArray s = true := fun w h => S.2.2.2.2 w (List.mem_cons_of_mem _ h)
  have hl : lv_has ls 2 [(0, .ref (ad 0)), (1, .int v1)] := hl
  have hS0 := hS
  obtain ⟨H, hH⟩ : ∃ H, H = s.heap := ⟨_, rfl⟩
  obtain ⟨locs, hlc⟩ : ∃ locs : List Loc, locs = [] := ⟨_, rfl⟩
  have hS : va_S A s.heap H locs := by rw [hH, hlc]; exact hS0
  have hP : va_P (dC, dI) vwCl [(ad 0, .inr (10, oM ad m_undoCount m_thrown m_hasSnapshot a_m_fam m_rows m_lineLength m_formattedLength m_bufferLength m_limit m_next m_beginsAt m_token m_error m_errorAt m_errorPosition m_nested m_codeCount)), (a_m_fam, .inl (cJ, 130, .inr (.inl m_fam)))] H := by rw [hH]; exact hP
  suffices hgo : W p l e ({ frames := 4, cells := 0, slots := 0, locals := 93 }) s m ([.ref (ad 0), .int v1] : List Value).toArray below meth c H locs 0 0 (MQ below (gQ dC dI (some (.int r9)) A [(ad 0, .inr (10, oM ad m_undoCount m_thrown_9 m_hasSnapshot a_m_fam m_rows m_lineLength m_formattedLength m_bufferLength m_limit m_next m_beginsAt m_token m_error m_errorAt m_errorPosition m_nested m_codeCount)), (a_m_fam, .inl (cJ, 130, .inr (.inl m_fam)))]) ([.ref (ad 0), .int v1] : List Value).toArray s 0 0 A) (F0 m 0 ls []) by rw [hH, hlc] at hgo; exact hgo
  rw [p10_descendants] at hf
  refine lv_aload_n hx hb dX10_descendants_0 rfl (lv_at hl 0 rfl) ?_
  refine lv_iconst (v := 0) hx hb dX10_descendants_1 (by decide) ?_
  refine va_put (D := (dC, dI)) (ci := 10) (v := .int (0 : Int32)) (ty := .int) (C := RX10) (T := TX10) (N := 37) hx hb htg inX10 tyX10 tyX10_ok nmX10 hown hE.1 hP hD hS 0 rfl rfl 5 (by decide) (htg _ tw1387) (fun _ h9 => h9) rfl (by decide +kernel) rfl rfl (Nat.le_of_ble_eq_true rfl) dX10_descendants_2 (fun H locs hP hD hS => ?_)
  have hP : va_P (dC, dI) vwCl [(ad 0, .inr (10, oM ad m_undoCount (0 : Int32) m_hasSnapshot a_m_fam m_rows m_lineLength m_formattedLength m_bufferLength m_limit m_next m_beginsAt m_token m_error m_errorAt m_errorPosition m_nested m_codeCount)), (a_m_fam, .inl (cJ, 130, .inr (.inl m_fam)))] H := hP
  have hD : va_D A [(ad 0, .inr (10, oM ad m_undoCount (0 : Int32) m_hasSnapshot a_m_fam m_rows m_lineLength m_formattedLength m_bufferLength m_limit m_next m_beginsAt m_token m_error m_errorAt m_errorPosition m_nested m_codeCount)), (a_m_fam, .inl (cJ, 130, .inr (.inl m_fam)))] := hD
  refine lv_aload_n hx hb dX10_descendants_5 rfl (lv_at hl 0 rfl) ?_
  refine lv_iload_n hx hb dX10_descendants_6 rfl (lv_at hl 1 rfl) ?_
  obtain ⟨r7, h9, hf⟩ := ob_s hf
  refine gcV (index := 234) S hE (c_X10_isPerson ad a_m_fam m_undoCount (0 : Int32) m_hasSnapshot m_rows m_lineLength m_formattedLength m_bufferLength m_limit m_next m_beginsAt m_token m_error m_errorAt m_errorPosition m_nested m_codeCount m_fam v1 r7 h9) mX10_isPerson tw1576 ⟨Nat.le_of_ble_eq_true rfl, Nat.le_of_ble_eq_true rfl⟩ hP hD hS hA ⟨Nat.zero_le _, Nat.zero_le _⟩ 0 10 rfl rfl rfl (wr := []) [0, 1] [] rfl rfl rfl rfl (by decide) (As := [.int v1]) (rest := []) rfl hl.1 rfl (Nat.le_of_ble_eq_true rfl) dX10_descendants_7 (fun H locs hP hD hS => ?_)
  refine W.eq (g2 := F0 m 10 ls [.int (bI r7)]) rfl ?_
  have hP : va_P (dC, dI) vwCl [(ad 0, .inr (10, oM ad m_undoCount (0 : Int32) m_hasSnapshot a_m_fam m_rows m_lineLength m_formattedLength m_bufferLength m_limit m_next m_beginsAt m_token m_error m_errorAt m_errorPosition m_nested m_codeCount)), (a_m_fam, .inl (cJ, 130, .inr (.inl m_fam)))] H := hP
  have hD : va_D A [(ad 0, .inr (10, oM ad m_undoCount (0 : Int32) m_hasSnapshot a_m_fam m_rows m_lineLength m_formattedLength m_bufferLength m_limit m_next m_beginsAt m_token m_error m_errorAt m_errorPosition m_nested m_codeCount)), (a_m_fam, .inl (cJ, 130, .inr (.inl m_fam)))] := hD
  refine lv_if_eq (tgt := 21) hx hb dX10_descendants_10 (by decide) (fun h9 => ?_) (fun h9 => ?_)
  · have hf := ctf (bI_0 h9) hf
    refine lv_aload_n hx hb dX10_descendants_21 rfl (lv_at hl 0 rfl) ?_
    refine lv_iconst (v := 1) hx hb dX10_descendants_22 (by decide) ?_
    obtain ⟨r23, m_thrown_23, h9⟩ : ∃ r23 m_thrown_23, p10_raise (1 : Int32) = (r23, m_thrown_23) := ⟨_, _, rfl⟩
    have hf := uc2_e (lb_e h9.symm hf)
    refine gcV (index := 240) S hE (c_X10_raise ad a_m_fam m_undoCount (0 : Int32) m_hasSnapshot m_rows m_lineLength m_formattedLength m_bufferLength m_limit m_next m_beginsAt m_token m_error m_errorAt m_errorPosition m_nested m_codeCount (1 : Int32) r23 m_thrown_23 h9) mX10_raise tw1584 ⟨Nat.le_of_ble_eq_true rfl, Nat.le_of_ble_eq_true rfl⟩ hP hD hS hA ⟨Nat.zero_le _, Nat.zero_le _⟩ 0 10 rfl rfl rfl (wr := [(a_m_fam, .inl (cJ, 130, .inr (.inl m_fam)))]) [0] [1] rfl rfl rfl rfl (by decide) (As := [.int (1 : Int32)]) (rest := []) rfl hl.1 rfl (Nat.le_of_ble_eq_true rfl) dX10_descendants_23 (fun H locs hP hD hS => ?_)
    refine W.eq (g2 := F0 m 26 ls [.int r23]) rfl ?_
    have hP : va_P (dC, dI) vwCl [(a_m_fam, .inl (cJ, 130, .inr (.inl m_fam))), (ad 0, .inr (10, oM ad m_undoCount m_thrown_23 m_hasSnapshot a_m_fam m_rows m_lineLength m_formattedLength m_bufferLength m_limit m_next m_beginsAt m_token m_error m_errorAt m_errorPosition m_nested m_codeCount))] H := hP
    have hD : va_D A [(a_m_fam, .inl (cJ, 130, .inr (.inl m_fam))), (ad 0, .inr (10, oM ad m_undoCount m_thrown_23 m_hasSnapshot a_m_fam m_rows m_lineLength m_formattedLength m_bufferLength m_limit m_next m_beginsAt m_token m_error m_errorAt m_errorPosition m_nested m_codeCount))] := hD
    cases hf
    exact g_iret S hr hlocks (hP.sub [1, 0] rfl) (hD.sub [1, 0] (by decide) rfl) hS dX10_descendants_26
  · have hf := ctt (bI_1 h9) hf
    refine lv_aload_n hx hb dX10_descendants_13 rfl (lv_at hl 0 rfl) ?_
    refine lv_iload_n hx hb dX10_descendants_14 rfl (lv_at hl 1 rfl) ?_
    obtain ⟨r15, h9, hf⟩ := ob_s hf
    refine gcV (index := 257) S hE (c_X10_descendantMask ad a_m_fam m_undoCount (0 : Int32) m_hasSnapshot m_rows m_lineLength m_formattedLength m_bufferLength m_limit m_next m_beginsAt m_token m_error m_errorAt m_errorPosition m_nested m_codeCount m_fam v1 r15 h9) mX10_descendantMask tw1656 ⟨Nat.le_of_ble_eq_true rfl, Nat.le_of_ble_eq_true rfl⟩ hP hD hS hA ⟨Nat.zero_le _, Nat.zero_le _⟩ 0 10 rfl rfl rfl (wr := []) [0, 1] [] rfl rfl rfl rfl (by decide) (As := [.int v1]) (rest := []) rfl hl.1 rfl (Nat.le_of_ble_eq_true rfl) dX10_descendants_15 (fun H locs hP hD hS => ?_)
    refine W.eq (g2 := F0 m 18 ls [.int r15]) rfl ?_
    have hP : va_P (dC, dI) vwCl [(ad 0, .inr (10, oM ad m_undoCount (0 : Int32) m_hasSnapshot a_m_fam m_rows m_lineLength m_formattedLength m_bufferLength m_limit m_next m_beginsAt m_token m_error m_errorAt m_errorPosition m_nested m_codeCount)), (a_m_fam, .inl (cJ, 130, .inr (.inl m_fam)))] H := hP
    have hD : va_D A [(ad 0, .inr (10, oM ad m_undoCount (0 : Int32) m_hasSnapshot a_m_fam m_rows m_lineLength m_formattedLength m_bufferLength m_limit m_next m_beginsAt m_token m_error m_errorAt m_errorPosition m_nested m_codeCount)), (a_m_fam, .inl (cJ, 130, .inr (.inl m_fam)))] := hD
    refine lv_goto (tgt := 26) hx hb dX10_descendants_18 (by decide) ?_
    cases hf
    exact g_iret S hr hlocks hP hD hS dX10_descendants_26
def p10_forgetKinships_J30 (m_rows_30 : Int32) (m_generation_30 : Nat → Int32) (m_kinships_30 : Nat → Int64) (m_level_30 : Nat → Int32) : Option ((Nat → Int32) × (Nat → Int64) × (Nat → Int32) × Int32) := some (m_generation_30, m_kinships_30, m_level_30, m_rows_30)
def p10_forgetKinships_L6_B  (k6 : Int32 → (Nat → Int64) → Option ((Nat → Int64))) (v1_6 : Int32) (m_kinships_6 : Nat → Int64) : Option ((Nat → Int64)) := (if (256 : Int32) ≤ v1_6 then some m_kinships_6 else gd v1_6 256 (lb (vp_updL m_kinships_6 v1_6.toNatClampNeg (-1 : Int64)) (fun g23 => lb (v1_6 + (1 : Int32)) (fun t24 => (k6 t24 g23)))))
def p10_forgetKinships_L6  : Nat → Int32 → (Nat → Int64) → Option ((Nat → Int64))
  | 0, _, _ => none
  | n+1, v1_6, m_kinships_6 => p10_forgetKinships_L6_B  (p10_forgetKinships_L6  n) v1_6 m_kinships_6
def p10_forgetKinships (m_fam : Nat → Int64) (m_generation : Nat → Int32) (m_kinships : Nat → Int64) (m_level : Nat → Int32) : Option ((Nat → Int32) × (Nat → Int64) × (Nat → Int32) × Int32) := ob (p10_layGenerations m_fam m_generation m_level) (uc3 fun m_generation_1 m_level_1 m_rows_1 => (ob (p10_forgetKinships_L6 FU (0 : Int32) m_kinships) (fun m_kinships_x6 => p10_forgetKinships_J30 m_rows_1 m_generation_1 m_kinships_x6 m_level_1)))
set_option maxHeartbeats 4000000 in
set_option maxRecDepth 100000 in
theorem c_X10_forgetKinships (ad : Nat → Nat) (a_m_fam : Nat) (m_undoCount : Int32) (m_thrown : Int32) (m_hasSnapshot : Bool) (m_rows : Int32) (m_lineLength : Int32) (m_formattedLength : Int32) (m_bufferLength : Int32) (m_limit : Int32) (m_next : Int32) (m_beginsAt : Int32) (m_token : Int32) (m_error : Int32) (m_errorAt : Int32) (m_errorPosition : Int32) (m_nested : Int32) (m_codeCount : Int32) (m_fam : Nat → Int64) (m_generation : Nat → Int32) (m_kinships : Nat → Int64) (m_level : Nat → Int32) (m_generation_9 : Nat → Int32) (m_kinships_9 : Nat → Int64) (m_level_9 : Nat → Int32) (m_rows_9 : Int32) (hf : p10_forgetKinships m_fam m_generation m_kinships m_level = some (m_generation_9, m_kinships_9, m_level_9, m_rows_9)) : gM l dC dI cI cJ cZ yX10_forgetKinships cX10_forgetKinships 2 none (3) (66) [.ref (ad 0)] [(ad 0, .inr (10, oM ad m_undoCount m_thrown m_hasSnapshot a_m_fam m_rows m_lineLength m_formattedLength m_bufferLength m_limit m_next m_beginsAt m_token m_error m_errorAt m_errorPosition m_nested m_codeCount)), (a_m_fam, .inl (cJ, 130, .inr (.inl m_fam))), ((ad 9), .inl (cI, 16, .inl m_generation)), ((ad 19), .inl (cJ, 256, .inr (.inl m_kinships))), ((ad 10), .inl (cI, 12, .inl m_level))] [(ad 0, .inr (10, oM ad m_undoCount m_thrown m_hasSnapshot a_m_fam m_rows_9 m_lineLength m_formattedLength m_bufferLength m_limit m_next m_beginsAt m_token m_error m_errorAt m_errorPosition m_nested m_codeCount)), (a_m_fam, .inl (cJ, 130, .inr (.inl m_fam))), ((ad 9), .inl (cI, 16, .inl m_generation_9)), ((ad 19), .inl (cJ, 256, .inr (.inl m_kinships_9))), ((ad 10), .inl (cI, 12, .inl m_level_9))] none := by
  refine g_start (own := RX10) (by decide +kernel) rfl (Nat.le_of_ble_eq_true rfl) ?_
  intro p e s m below meth c A ls S hr hlocks hE hP hD hS hA hl hin
  have hx := S.1
  have hb := S.2.1
  have hml := S.2.2.1
  have hown := S.2.2.2.1
  have htg : ∀ z ∈ gw, z.before ([.ref (ad 0)] : List Value).toArray s = true := fun w h => S.2.2.2.2 w (List.mem_cons_of_mem _ h)
  have hl : lv_has ls 2 [(0, .ref (ad 0))] := hl
  have hS0 := hS
  obtain ⟨H, hH⟩ : ∃ H, H = s.heap := ⟨_, rfl⟩
  obtain ⟨locs, hlc⟩ : ∃ locs : List Loc, locs = [] := ⟨_, rfl⟩
  have hS : va_S A s.heap H locs := by rw [hH, hlc]; exact hS0
  have hP : va_P (dC, dI) vwCl [(ad 0, .inr (10, oM ad m_undoCount m_thrown m_hasSnapshot a_m_fam m_rows m_lineLength m_formattedLength m_bufferLength m_limit m_next m_beginsAt m_token m_error m_errorAt m_errorPosition m_nested m_codeCount)), (a_m_fam, .inl (cJ, 130, .inr (.inl m_fam))), ((ad 9), .inl (cI, 16, .inl m_generation)), ((ad 19), .inl (cJ, 256, .inr (.inl m_kinships))), ((ad 10), .inl (cI, 12, .inl m_level))] H := by rw [hH]; exact hP
  suffices hgo : W p l e ({ frames := 3, cells := 0, slots := 0, locals := 66 }) s m ([.ref (ad 0)] : List Value).toArray below meth c H locs 0 0 (MQ below (gQ dC dI none A [(ad 0, .inr (10, oM ad m_undoCount m_thrown m_hasSnapshot a_m_fam m_rows_9 m_lineLength m_formattedLength m_bufferLength m_limit m_next m_beginsAt m_token m_error m_errorAt m_errorPosition m_nested m_codeCount)), (a_m_fam, .inl (cJ, 130, .inr (.inl m_fam))), ((ad 9), .inl (cI, 16, .inl m_generation_9)), ((ad 19), .inl (cJ, 256, .inr (.inl m_kinships_9))), ((ad 10), .inl (cI, 12, .inl m_level_9))]) ([.ref (ad 0)] : List Value).toArray s 0 0 A) (F0 m 0 ls []) by rw [hH, hlc] at hgo; exact hgo
  rw [p10_forgetKinships] at hf
  have J30 : ∀ (m_rows_30 : Int32) (m_generation_30 : Nat → Int32) (m_kinships_30 : Nat → Int64) (m_level_30 : Nat → Int32) (H : Heap) (locs : List Loc) (ls : Array Slot), p10_forgetKinships_J30 m_rows_30 m_generation_30 m_kinships_30 m_level_30 = some (m_generation_9, m_kinships_9, m_level_9, m_rows_9) → va_P (dC, dI) vwCl [(ad 0, .inr (10, oM ad m_undoCount m_thrown m_hasSnapshot a_m_fam m_rows_30 m_lineLength m_formattedLength m_bufferLength m_limit m_next m_beginsAt m_token m_error m_errorAt m_errorPosition m_nested m_codeCount)), (a_m_fam, .inl (cJ, 130, .inr (.inl m_fam))), ((ad 9), .inl (cI, 16, .inl m_generation_30)), ((ad 19), .inl (cJ, 256, .inr (.inl m_kinships_30))), ((ad 10), .inl (cI, 12, .inl m_level_30))] H → va_D A [(ad 0, .inr (10, oM ad m_undoCount m_thrown m_hasSnapshot a_m_fam m_rows_30 m_lineLength m_formattedLength m_bufferLength m_limit m_next m_beginsAt m_token m_error m_errorAt m_errorPosition m_nested m_codeCount)), (a_m_fam, .inl (cJ, 130, .inr (.inl m_fam))), ((ad 9), .inl (cI, 16, .inl m_generation_30)), ((ad 19), .inl (cJ, 256, .inr (.inl m_kinships_30))), ((ad 10), .inl (cI, 12, .inl m_level_30))] → va_S A s.heap H locs → lv_has ls 2 [] → W p l e ({ frames := 3, cells := 0, slots := 0, locals := 66 }) s m ([.ref (ad 0)] : List Value).toArray below meth c H locs 0 0 (MQ below (gQ dC dI none A [(ad 0, .inr (10, oM ad m_undoCount m_thrown m_hasSnapshot a_m_fam m_rows_9 m_lineLength m_formattedLength m_bufferLength m_limit m_next m_beginsAt m_token m_error m_errorAt m_errorPosition m_nested m_codeCount)), (a_m_fam, .inl (cJ, 130, .inr (.inl m_fam))), ((ad 9), .inl (cI, 16, .inl m_generation_9)), ((ad 19), .inl (cJ, 256, .inr (.inl m_kinships_9))), ((ad 10), .inl (cI, 12, .inl m_level_9))]) ([.ref (ad 0)] : List Value).toArray s 0 0 A) (F0 m 30 ls []) := by
    intro m_rows_30 m_generation_30 m_kinships_30 m_level_30 H locs ls hf hP hD hS hl
    rw [p10_forgetKinships_J30] at hf
    cases hf
    exact g_vret S hr hlocks hP hD hS dX10_forgetKinships_30
  refine lv_aload_n hx hb dX10_forgetKinships_0 rfl (lv_at hl 0 rfl) ?_
  obtain ⟨⟨m_generation_1, m_level_1, m_rows_1⟩, h9, hf⟩ := ob_s hf
  have hf := uc3_e hf
  refine gcV (index := 138) S hE (c_X10_layGenerations ad a_m_fam m_undoCount m_thrown m_hasSnapshot m_rows m_lineLength m_formattedLength m_bufferLength m_limit m_next m_beginsAt m_token m_error m_errorAt m_errorPosition m_nested m_codeCount m_fam m_generation m_level m_generation_1 m_level_1 m_rows_1 h9) mX10_layGenerations tw1507 ⟨Nat.le_of_ble_eq_true rfl, Nat.le_of_ble_eq_true rfl⟩ hP hD hS hA ⟨Nat.zero_le _, Nat.zero_le _⟩ 0 10 rfl rfl rfl (wr := [((ad 19), .inl (cJ, 256, .inr (.inl m_kinships)))]) [0, 1, 2, 4] [3] rfl rfl rfl rfl (by decide) (As := []) (rest := []) rfl hl.1 rfl (Nat.le_of_ble_eq_true rfl) dX10_forgetKinships_1 (fun H locs hP hD hS => ?_)
  refine W.eq (g2 := F0 m 4 ls []) rfl ?_
  have hP : va_P (dC, dI) vwCl [((ad 19), .inl (cJ, 256, .inr (.inl m_kinships))), (ad 0, .inr (10, oM ad m_undoCount m_thrown m_hasSnapshot a_m_fam m_rows_1 m_lineLength m_formattedLength m_bufferLength m_limit m_next m_beginsAt m_token m_error m_errorAt m_errorPosition m_nested m_codeCount)), (a_m_fam, .inl (cJ, 130, .inr (.inl m_fam))), ((ad 9), .inl (cI, 16, .inl m_generation_1)), ((ad 10), .inl (cI, 12, .inl m_level_1))] H := hP
  have hD : va_D A [((ad 19), .inl (cJ, 256, .inr (.inl m_kinships))), (ad 0, .inr (10, oM ad m_undoCount m_thrown m_hasSnapshot a_m_fam m_rows_1 m_lineLength m_formattedLength m_bufferLength m_limit m_next m_beginsAt m_token m_error m_errorAt m_errorPosition m_nested m_codeCount)), (a_m_fam, .inl (cJ, 130, .inr (.inl m_fam))), ((ad 9), .inl (cI, 16, .inl m_generation_1)), ((ad 10), .inl (cI, 12, .inl m_level_1))] := hD
  refine lv_iconst (v := 0) hx hb dX10_forgetKinships_4 (by decide) ?_
  refine lv_istore_n (lv' := [(1, .int (0 : Int32)), (0, .ref (ad 0))]) hx hb dX10_forgetKinships_5 rfl hl (by decide) rfl (fun ls hl => ?_)
  have K6 : ∀ (n6 : Nat) (v1_6 : Int32) (m_kinships_6 : Nat → Int64) (ex6 : (Nat → Int64)) (H : Heap) (locs : List Loc) (ls : Array Slot), p10_forgetKinships_L6 n6 v1_6 m_kinships_6 = some ex6 → (fun m_kinships_x6 => p10_forgetKinships_J30 m_rows_1 m_generation_1 m_kinships_x6 m_level_1) ex6 = some (m_generation_9, m_kinships_9, m_level_9, m_rows_9) → va_P (dC, dI) vwCl [(ad 0, .inr (10, oM ad m_undoCount m_thrown m_hasSnapshot a_m_fam m_rows_1 m_lineLength m_formattedLength m_bufferLength m_limit m_next m_beginsAt m_token m_error m_errorAt m_errorPosition m_nested m_codeCount)), (a_m_fam, .inl (cJ, 130, .inr (.inl m_fam))), ((ad 9), .inl (cI, 16, .inl m_generation_1)), ((ad 19), .inl (cJ, 256, .inr (.inl m_kinships_6))), ((ad 10), .inl (cI, 12, .inl m_level_1))] H → va_D A [(ad 0, .inr (10, oM ad m_undoCount m_thrown m_hasSnapshot a_m_fam m_rows_1 m_lineLength m_formattedLength m_bufferLength m_limit m_next m_beginsAt m_token m_error m_errorAt m_errorPosition m_nested m_codeCount)), (a_m_fam, .inl (cJ, 130, .inr (.inl m_fam))), ((ad 9), .inl (cI, 16, .inl m_generation_1)), ((ad 19), .inl (cJ, 256, .inr (.inl m_kinships_6))), ((ad 10), .inl (cI, 12, .inl m_level_1))] → va_S A s.heap H locs → lv_has ls 2 [(0, .ref (ad 0)), (1, .int v1_6)] → W p l e ({ frames := 3, cells := 0, slots := 0, locals := 66 }) s m ([.ref (ad 0)] : List Value).toArray below meth c H locs 0 0 (MQ below (gQ dC dI none A [(ad 0, .inr (10, oM ad m_undoCount m_thrown m_hasSnapshot a_m_fam m_rows_9 m_lineLength m_formattedLength m_bufferLength m_limit m_next m_beginsAt m_token m_error m_errorAt m_errorPosition m_nested m_codeCount)), (a_m_fam, .inl (cJ, 130, .inr (.inl m_fam))), ((ad 9), .inl (cI, 16, .inl m_generation_9)), ((ad 19), .inl (cJ, 256, .inr (.inl m_kinships_9))), ((ad 10), .inl (cI, 12, .inl m_level_9))]) ([.ref (ad 0)] : List Value).toArray s 0 0 A) (F0 m 6 ls []) := by
    intro n6
    induction n6 with
    | zero => intro v1_6 m_kinships_6 ex6 H locs ls hf; rw [p10_forgetKinships_L6] at hf; cases hf
    | succ n6 ih6 =>
      intro v1_6 m_kinships_6 ex6 H locs ls hf hk6 hP hD hS hl
      rw [p10_forgetKinships_L6, p10_forgetKinships_L6_B] at hf
      refine lv_iload_n hx hb dX10_forgetKinships_6 rfl (lv_at hl 1 rfl) ?_
      refine lv_aload_n hx hb dX10_forgetKinships_7 rfl (lv_at hl 0 rfl) ?_
      refine va_get (D := (dC, dI)) (ci := 10) (v := .ref (ad 19)) (C := RX10) (T := TX10) (N := 37) hx hb htg inX10 hown hE.1 hP 0 rfl rfl 18 (by decide) (htg _ tw1400) (fun _ h9 => h9) rfl dX10_forgetKinships_8 ?_
      refine va_alen (v := (256 : Int32)) hx hb hE.1 hP 3 1 rfl rfl rfl dX10_forgetKinships_11 ?_
      refine lv_icmp_ge (tgt := 30) hx hb dX10_forgetKinships_12 (by decide) (fun h9 => ?_) (fun h9 => ?_)
      · have hf := itt h9 hf
        cases hf
        have hf := hk6
        exact J30 m_rows_1 m_generation_1 m_kinships_6 m_level_1 H locs ls hf hP hD hS (lv_sub hl [] rfl)
      · have hf := itf h9 hf
        refine lv_aload_n hx hb dX10_forgetKinships_15 rfl (lv_at hl 0 rfl) ?_
        refine va_get (D := (dC, dI)) (ci := 10) (v := .ref (ad 19)) (C := RX10) (T := TX10) (N := 37) hx hb htg inX10 hown hE.1 hP 0 rfl rfl 18 (by decide) (htg _ tw1400) (fun _ h9 => h9) rfl dX10_forgetKinships_16 ?_
        refine lv_iload_n hx hb dX10_forgetKinships_19 rfl (lv_at hl 1 rfl) ?_
        refine lv_ldc2 (own := RX10) (v := -1) hx hb hown (htg _ tw1672) dX10_forgetKinships_20 ?_
        obtain ⟨h9, hf⟩ := gd_s hf
        refine va_last hx hb hE.1 hP hD hS 3 1 rfl rfl h9 dX10_forgetKinships_23 (fun H locs hP hD hS => ?_)
        obtain ⟨g23, h9⟩ : ∃ z, z = (vp_updL m_kinships_6 v1_6.toNatClampNeg (-1 : Int64)) := ⟨_, rfl⟩
        have hf := lb_e h9 hf
        have hP : va_P (dC, dI) vwCl [(ad 0, .inr (10, oM ad m_undoCount m_thrown m_hasSnapshot a_m_fam m_rows_1 m_lineLength m_formattedLength m_bufferLength m_limit m_next m_beginsAt m_token m_error m_errorAt m_errorPosition m_nested m_codeCount)), (a_m_fam, .inl (cJ, 130, .inr (.inl m_fam))), ((ad 9), .inl (cI, 16, .inl m_generation_1)), ((ad 19), .inl (cJ, 256, .inr (.inl g23))), ((ad 10), .inl (cI, 12, .inl m_level_1))] H := by rw [h9]; exact hP
        have hD : va_D A [(ad 0, .inr (10, oM ad m_undoCount m_thrown m_hasSnapshot a_m_fam m_rows_1 m_lineLength m_formattedLength m_bufferLength m_limit m_next m_beginsAt m_token m_error m_errorAt m_errorPosition m_nested m_codeCount)), (a_m_fam, .inl (cJ, 130, .inr (.inl m_fam))), ((ad 9), .inl (cI, 16, .inl m_generation_1)), ((ad 19), .inl (cJ, 256, .inr (.inl g23))), ((ad 10), .inl (cI, 12, .inl m_level_1))] := by rw [h9]; exact hD
        obtain ⟨t24, h9⟩ : ∃ z : Int32, z = (v1_6 + (1 : Int32)) := ⟨_, rfl⟩
        have hf := lb_e h9 hf
        refine lv_iinc (v := t24) (lv' := [(1, .int t24), (0, .ref (ad 0))]) hx hb dX10_forgetKinships_24 hl (k := 1) rfl (by rw [h9]; rfl) (by decide) rfl (fun ls hl => ?_)
        refine lv_goto (tgt := 6) hx hb dX10_forgetKinships_27 (by decide) ?_
        exact ih6 t24 g23 ex6 H locs ls hf hk6 hP hD hS (lv_sub hl [1, 0] rfl)
  obtain ⟨ex, h9, hf⟩ := ob_s hf
  exact K6 FU (0 : Int32) m_kinships ex H locs ls h9 hf (hP.sub [1, 2, 3, 0, 4] rfl) (hD.sub [1, 2, 3, 0, 4] (by decide) rfl) hS (lv_sub hl [1, 0] rfl)
def p10_isLater (m_generation : Nat → Int32) (v1 : Int32) (v2 : Int32) : Option (Bool) := gd v1 16 (gd v2 16 ((if (m_generation v2.toNatClampNeg) < (m_generation v1.toNatClampNeg) then some true else gd v1 16 (gd v2 16 ((if (m_generation v1.toNatClampNeg) = (m_generation v2.toNatClampNeg) then (if v1 ≤ v2 then some false else some true) else some false))))))
set_option maxHeartbeats 4000000 in
set_option maxRecDepth 100000 in
theorem c_X10_isLater (ad : Nat → Nat) (a_m_fam : Nat) (m_undoCount : Int32) (m_thrown : Int32) (m_hasSnapshot : Bool) (m_rows : Int32) (m_lineLength : Int32) (m_formattedLength : Int32) (m_bufferLength : Int32) (m_limit : Int32) (m_next : Int32) (m_beginsAt : Int32) (m_token : Int32) (m_error : Int32) (m_errorAt : Int32) (m_errorPosition : Int32) (m_nested : Int32) (m_codeCount : Int32) (m_generation : Nat → Int32) (v1 : Int32) (v2 : Int32) (r9 : Bool) (hf : p10_isLater m_generation v1 v2 = some r9) : gM l dC dI cI cJ cZ yX10_isLater cX10_isLater 3 (some .boolean) (0) (0) [.ref (ad 0), .int v1, .int v2] [(ad 0, .inr (10, oM ad m_undoCount m_thrown m_hasSnapshot a_m_fam m_rows m_lineLength m_formattedLength m_bufferLength m_limit m_next m_beginsAt m_token m_error m_errorAt m_errorPosition m_nested m_codeCount)), ((ad 9), .inl (cI, 16, .inl m_generation))] [(ad 0, .inr (10, oM ad m_undoCount m_thrown m_hasSnapshot a_m_fam m_rows m_lineLength m_formattedLength m_bufferLength m_limit m_next m_beginsAt m_token m_error m_errorAt m_errorPosition m_nested m_codeCount)), ((ad 9), .inl (cI, 16, .inl m_generation))] (some (.int (bI r9))) := by
  refine g_start (own := RX10) (by decide +kernel) rfl (Nat.le_of_ble_eq_true rfl) ?_
  intro p e s m below meth c A ls S hr hlocks hE hP hD hS hA hl hin
  have hx := S.1
  have hb := S.2.1
  have hml := S.2.2.1
  have hown := S.2.2.2.1
  have htg : ∀ z ∈ gw, z.before ([.ref (ad 0), .int v1, .int v2] : List Value).toArray s = true := fun w h => S.2.2.2.2 w (List.mem_cons_of_mem _ h)
  have hl : lv_has ls 3 [(0, .ref (ad 0)), (1, .int v1), (2, .int v2)] := hl
  have hS0 := hS
  obtain ⟨H, hH⟩ : ∃ H, H = s.heap := ⟨_, rfl⟩
  obtain ⟨locs, hlc⟩ : ∃ locs : List Loc, locs = [] := ⟨_, rfl⟩
  have hS : va_S A s.heap H locs := by rw [hH, hlc]; exact hS0
  have hP : va_P (dC, dI) vwCl [(ad 0, .inr (10, oM ad m_undoCount m_thrown m_hasSnapshot a_m_fam m_rows m_lineLength m_formattedLength m_bufferLength m_limit m_next m_beginsAt m_token m_error m_errorAt m_errorPosition m_nested m_codeCount)), ((ad 9), .inl (cI, 16, .inl m_generation))] H := by rw [hH]; exact hP
  suffices hgo : W p l e ({ frames := 0, cells := 0, slots := 0, locals := 0 }) s m ([.ref (ad 0), .int v1, .int v2] : List Value).toArray below meth c H locs 0 0 (MQ below (gQ dC dI (some (.int (bI r9))) A [(ad 0, .inr (10, oM ad m_undoCount m_thrown m_hasSnapshot a_m_fam m_rows m_lineLength m_formattedLength m_bufferLength m_limit m_next m_beginsAt m_token m_error m_errorAt m_errorPosition m_nested m_codeCount)), ((ad 9), .inl (cI, 16, .inl m_generation))]) ([.ref (ad 0), .int v1, .int v2] : List Value).toArray s 0 0 A) (F0 m 0 ls []) by rw [hH, hlc] at hgo; exact hgo
  rw [p10_isLater] at hf
  refine lv_aload_n hx hb dX10_isLater_0 rfl (lv_at hl 0 rfl) ?_
  refine va_get (D := (dC, dI)) (ci := 10) (v := .ref (ad 9)) (C := RX10) (T := TX10) (N := 37) hx hb htg inX10 hown hE.1 hP 0 rfl rfl 8 (by decide) (htg _ tw1390) (fun _ h9 => h9) rfl dX10_isLater_1 ?_
  refine lv_iload_n hx hb dX10_isLater_4 rfl (lv_at hl 1 rfl) ?_
  obtain ⟨h9, hf⟩ := gd_s hf
  refine va_iald hx hb hE.1 hP 1 0 rfl rfl h9 dX10_isLater_5 ?_
  refine lv_aload_n hx hb dX10_isLater_6 rfl (lv_at hl 0 rfl) ?_
  refine va_get (D := (dC, dI)) (ci := 10) (v := .ref (ad 9)) (C := RX10) (T := TX10) (N := 37) hx hb htg inX10 hown hE.1 hP 0 rfl rfl 8 (by decide) (htg _ tw1390) (fun _ h9 => h9) rfl dX10_isLater_7 ?_
  refine lv_iload_n hx hb dX10_isLater_10 rfl (lv_at hl 2 rfl) ?_
  obtain ⟨h9, hf⟩ := gd_s hf
  refine va_iald hx hb hE.1 hP 1 0 rfl rfl h9 dX10_isLater_11 ?_
  refine lv_icmp_gt (tgt := 35) hx hb dX10_isLater_12 (by decide) (fun h9 => ?_) (fun h9 => ?_)
  · have hf := itt h9 hf
    refine lv_iconst (v := 1) hx hb dX10_isLater_35 (by decide) ?_
    refine lv_goto (tgt := 40) hx hb dX10_isLater_36 (by decide) ?_
    cases hf
    exact g_zret S hr (nar_bI true) hlocks hP hD hS dX10_isLater_40
  · have hf := itf h9 hf
    refine lv_aload_n hx hb dX10_isLater_15 rfl (lv_at hl 0 rfl) ?_
    refine va_get (D := (dC, dI)) (ci := 10) (v := .ref (ad 9)) (C := RX10) (T := TX10) (N := 37) hx hb htg inX10 hown hE.1 hP 0 rfl rfl 8 (by decide) (htg _ tw1390) (fun _ h9 => h9) rfl dX10_isLater_16 ?_
    refine lv_iload_n hx hb dX10_isLater_19 rfl (lv_at hl 1 rfl) ?_
    obtain ⟨h9, hf⟩ := gd_s hf
    refine va_iald hx hb hE.1 hP 1 0 rfl rfl h9 dX10_isLater_20 ?_
    refine lv_aload_n hx hb dX10_isLater_21 rfl (lv_at hl 0 rfl) ?_
    refine va_get (D := (dC, dI)) (ci := 10) (v := .ref (ad 9)) (C := RX10) (T := TX10) (N := 37) hx hb htg inX10 hown hE.1 hP 0 rfl rfl 8 (by decide) (htg _ tw1390) (fun _ h9 => h9) rfl dX10_isLater_22 ?_
    refine lv_iload_n hx hb dX10_isLater_25 rfl (lv_at hl 2 rfl) ?_
    obtain ⟨h9, hf⟩ := gd_s hf
    refine va_iald hx hb hE.1 hP 1 0 rfl rfl h9 dX10_isLater_26 ?_
    refine lv_icmp_ne (tgt := 39) hx hb dX10_isLater_27 (by decide) (fun h9 => ?_) (fun h9 => ?_)
    · have hf := itf h9 hf
      refine lv_iconst (v := 0) hx hb dX10_isLater_39 (by decide) ?_
      cases hf
      exact g_zret S hr (nar_bI false) hlocks hP hD hS dX10_isLater_40
    · have hf := itt h9 hf
      refine lv_iload_n hx hb dX10_isLater_30 rfl (lv_at hl 1 rfl) ?_
      refine lv_iload_n hx hb dX10_isLater_31 rfl (lv_at hl 2 rfl) ?_
      refine lv_icmp_le (tgt := 39) hx hb dX10_isLater_32 (by decide) (fun h9 => ?_) (fun h9 => ?_)
      · have hf := itt h9 hf
        refine lv_iconst (v := 0) hx hb dX10_isLater_39 (by decide) ?_
        cases hf
        exact g_zret S hr (nar_bI false) hlocks hP hD hS dX10_isLater_40
      · have hf := itf h9 hf
        refine lv_iconst (v := 1) hx hb dX10_isLater_35 (by decide) ?_
        refine lv_goto (tgt := 40) hx hb dX10_isLater_36 (by decide) ?_
        cases hf
        exact g_zret S hr (nar_bI true) hlocks hP hD hS dX10_isLater_40
def p10_arePersons_J25 (m_thrown_25 : Int32) : Option (Bool × Int32) := (if m_thrown_25 = (0 : Int32) then some (true, m_thrown_25) else some (false, m_thrown_25))
def p10_arePersons (m_fam : Nat → Int64) (v1 : Int32) (v2 : Int32) : Option (Bool × Int32) := ob (p10_isPerson m_fam v1) (fun r3 => (cond r3 (ob (p10_isPerson m_fam v2) (fun r11 => (cond r11 (p10_arePersons_J25 (0 : Int32)) (p10_arePersons_J25 (1 : Int32))))) (p10_arePersons_J25 (1 : Int32))))
set_option maxHeartbeats 4000000 in
set_option maxRecDepth 100000 in
theorem c_X10_arePersons (ad : Nat → Nat) (a_m_fam : Nat) (m_undoCount : Int32) (m_thrown : Int32) (m_hasSnapshot : Bool) (m_rows : Int32) (m_lineLength : Int32) (m_formattedLength : Int32) (m_bufferLength : Int32) (m_limit : Int32) (m_next : Int32) (m_beginsAt : Int32) (m_token : Int32) (m_error : Int32) (m_errorAt : Int32) (m_errorPosition : Int32) (m_nested : Int32) (m_codeCount : Int32) (m_fam : Nat → Int64) (v1 : Int32) (v2 : Int32) (r9 : Bool) (m_thrown_9 : Int32) (hf : p10_arePersons m_fam v1 v2 = some (r9, m_thrown_9)) : gM l dC dI cI cJ cZ yX10_arePersons cX10_arePersons 3 (some .boolean) (2) (46) [.ref (ad 0), .int v1, .int v2] [(ad 0, .inr (10, oM ad m_undoCount m_thrown m_hasSnapshot a_m_fam m_rows m_lineLength m_formattedLength m_bufferLength m_limit m_next m_beginsAt m_token m_error m_errorAt m_errorPosition m_nested m_codeCount)), (a_m_fam, .inl (cJ, 130, .inr (.inl m_fam)))] [(ad 0, .inr (10, oM ad m_undoCount m_thrown_9 m_hasSnapshot a_m_fam m_rows m_lineLength m_formattedLength m_bufferLength m_limit m_next m_beginsAt m_token m_error m_errorAt m_errorPosition m_nested m_codeCount)), (a_m_fam, .inl (cJ, 130, .inr (.inl m_fam)))] (some (.int (bI r9))) := by
  refine g_start (own := RX10) (by decide +kernel) rfl (Nat.le_of_ble_eq_true rfl) ?_
  intro p e s m below meth c A ls S hr hlocks hE hP hD hS hA hl hin
  have hx := S.1
  have hb := S.2.1
  have hml := S.2.2.1
  have hown := S.2.2.2.1
  have htg : ∀ z ∈ gw, z.before ([.ref (ad 0), .int v1, .int v2] : List Value).toArray s = true := fun w h => S.2.2.2.2 w (List.mem_cons_of_mem _ h)
  have hl : lv_has ls 3 [(0, .ref (ad 0)), (1, .int v1), (2, .int v2)] := hl
  have hS0 := hS
  obtain ⟨H, hH⟩ : ∃ H, H = s.heap := ⟨_, rfl⟩
  obtain ⟨locs, hlc⟩ : ∃ locs : List Loc, locs = [] := ⟨_, rfl⟩
  have hS : va_S A s.heap H locs := by rw [hH, hlc]; exact hS0
  have hP : va_P (dC, dI) vwCl [(ad 0, .inr (10, oM ad m_undoCount m_thrown m_hasSnapshot a_m_fam m_rows m_lineLength m_formattedLength m_bufferLength m_limit m_next m_beginsAt m_token m_error m_errorAt m_errorPosition m_nested m_codeCount)), (a_m_fam, .inl (cJ, 130, .inr (.inl m_fam)))] H := by rw [hH]; exact hP
  suffices hgo : W p l e ({ frames := 2, cells := 0, slots := 0, locals := 46 }) s m ([.ref (ad 0), .int v1, .int v2] : List Value).toArray below meth c H locs 0 0 (MQ below (gQ dC dI (some (.int (bI r9))) A [(ad 0, .inr (10, oM ad m_undoCount m_thrown_9 m_hasSnapshot a_m_fam m_rows m_lineLength m_formattedLength m_bufferLength m_limit m_next m_beginsAt m_token m_error m_errorAt m_errorPosition m_nested m_codeCount)), (a_m_fam, .inl (cJ, 130, .inr (.inl m_fam)))]) ([.ref (ad 0), .int v1, .int v2] : List Value).toArray s 0 0 A) (F0 m 0 ls []) by rw [hH, hlc] at hgo; exact hgo
  rw [p10_arePersons] at hf
  have J25 : ∀ (m_thrown_25 : Int32) (H : Heap) (locs : List Loc) (ls : Array Slot), p10_arePersons_J25 m_thrown_25 = some (r9, m_thrown_9) → va_P (dC, dI) vwCl [(ad 0, .inr (10, oM ad m_undoCount m_thrown_25 m_hasSnapshot a_m_fam m_rows m_lineLength m_formattedLength m_bufferLength m_limit m_next m_beginsAt m_token m_error m_errorAt m_errorPosition m_nested m_codeCount)), (a_m_fam, .inl (cJ, 130, .inr (.inl m_fam)))] H → va_D A [(ad 0, .inr (10, oM ad m_undoCount m_thrown_25 m_hasSnapshot a_m_fam m_rows m_lineLength m_formattedLength m_bufferLength m_limit m_next m_beginsAt m_token m_error m_errorAt m_errorPosition m_nested m_codeCount)), (a_m_fam, .inl (cJ, 130, .inr (.inl m_fam)))] → va_S A s.heap H locs → lv_has ls 3 [(0, .ref (ad 0))] → W p l e ({ frames := 2, cells := 0, slots := 0, locals := 46 }) s m ([.ref (ad 0), .int v1, .int v2] : List Value).toArray below meth c H locs 0 0 (MQ below (gQ dC dI (some (.int (bI r9))) A [(ad 0, .inr (10, oM ad m_undoCount m_thrown_9 m_hasSnapshot a_m_fam m_rows m_lineLength m_formattedLength m_bufferLength m_limit m_next m_beginsAt m_token m_error m_errorAt m_errorPosition m_nested m_codeCount)), (a_m_fam, .inl (cJ, 130, .inr (.inl m_fam)))]) ([.ref (ad 0), .int v1, .int v2] : List Value).toArray s 0 0 A) (F0 m 25 ls []) := by
    intro m_thrown_25 H locs ls hf hP hD hS hl
    rw [p10_arePersons_J25] at hf
    refine lv_aload_n hx hb dX10_arePersons_25 rfl (lv_at hl 0 rfl) ?_
    refine va_get (D := (dC, dI)) (ci := 10) (v := .int m_thrown_25) (C := RX10) (T := TX10) (N := 37) hx hb htg inX10 hown hE.1 hP 0 rfl rfl 5 (by decide) (htg _ tw1387) (fun _ h9 => h9) rfl dX10_arePersons_26 ?_
    refine lv_if_ne (tgt := 36) hx hb dX10_arePersons_29 (by decide) (fun h9 => ?_) (fun h9 => ?_)
    · have hf := itf h9 hf
      refine lv_iconst (v := 0) hx hb dX10_arePersons_36 (by decide) ?_
      cases hf
      exact g_zret S hr (nar_bI false) hlocks hP hD hS dX10_arePersons_37
    · have hf := itt h9 hf
      refine lv_iconst (v := 1) hx hb dX10_arePersons_32 (by decide) ?_
      refine lv_goto (tgt := 37) hx hb dX10_arePersons_33 (by decide) ?_
      cases hf
      exact g_zret S hr (nar_bI true) hlocks hP hD hS dX10_arePersons_37
  refine lv_aload_n hx hb dX10_arePersons_0 rfl (lv_at hl 0 rfl) ?_
  refine lv_aload_n hx hb dX10_arePersons_1 rfl (lv_at hl 0 rfl) ?_
  refine lv_iload_n hx hb dX10_arePersons_2 rfl (lv_at hl 1 rfl) ?_
  obtain ⟨r3, h9, hf⟩ := ob_s hf
  refine gcV (index := 234) S hE (c_X10_isPerson ad a_m_fam m_undoCount m_thrown m_hasSnapshot m_rows m_lineLength m_formattedLength m_bufferLength m_limit m_next m_beginsAt m_token m_error m_errorAt m_errorPosition m_nested m_codeCount m_fam v1 r3 h9) mX10_isPerson tw1576 ⟨Nat.le_of_ble_eq_true rfl, Nat.le_of_ble_eq_true rfl⟩ hP hD hS hA ⟨Nat.zero_le _, Nat.zero_le _⟩ 0 10 rfl rfl rfl (wr := []) [0, 1] [] rfl rfl rfl rfl (by decide) (As := [.int v1]) (rest := [.ref (ad 0)]) rfl hl.1 rfl (Nat.le_of_ble_eq_true rfl) dX10_arePersons_3 (fun H locs hP hD hS => ?_)
  refine W.eq (g2 := F0 m 6 ls [.int (bI r3), .ref (ad 0)]) rfl ?_
  have hP : va_P (dC, dI) vwCl [(ad 0, .inr (10, oM ad m_undoCount m_thrown m_hasSnapshot a_m_fam m_rows m_lineLength m_formattedLength m_bufferLength m_limit m_next m_beginsAt m_token m_error m_errorAt m_errorPosition m_nested m_codeCount)), (a_m_fam, .inl (cJ, 130, .inr (.inl m_fam)))] H := hP
  have hD : va_D A [(ad 0, .inr (10, oM ad m_undoCount m_thrown m_hasSnapshot a_m_fam m_rows m_lineLength m_formattedLength m_bufferLength m_limit m_next m_beginsAt m_token m_error m_errorAt m_errorPosition m_nested m_codeCount)), (a_m_fam, .inl (cJ, 130, .inr (.inl m_fam)))] := hD
  refine lv_if_eq (tgt := 21) hx hb dX10_arePersons_6 (by decide) (fun h9 => ?_) (fun h9 => ?_)
  · have hf := ctf (bI_0 h9) hf
    refine lv_iconst (v := 1) hx hb dX10_arePersons_21 (by decide) ?_
    refine va_put (D := (dC, dI)) (ci := 10) (v := .int (1 : Int32)) (ty := .int) (C := RX10) (T := TX10) (N := 37) hx hb htg inX10 tyX10 tyX10_ok nmX10 hown hE.1 hP hD hS 0 rfl rfl 5 (by decide) (htg _ tw1387) (fun _ h9 => h9) rfl (by decide +kernel) rfl rfl (Nat.le_of_ble_eq_true rfl) dX10_arePersons_22 (fun H locs hP hD hS => ?_)
    have hP : va_P (dC, dI) vwCl [(ad 0, .inr (10, oM ad m_undoCount (1 : Int32) m_hasSnapshot a_m_fam m_rows m_lineLength m_formattedLength m_bufferLength m_limit m_next m_beginsAt m_token m_error m_errorAt m_errorPosition m_nested m_codeCount)), (a_m_fam, .inl (cJ, 130, .inr (.inl m_fam)))] H := hP
    have hD : va_D A [(ad 0, .inr (10, oM ad m_undoCount (1 : Int32) m_hasSnapshot a_m_fam m_rows m_lineLength m_formattedLength m_bufferLength m_limit m_next m_beginsAt m_token m_error m_errorAt m_errorPosition m_nested m_codeCount)), (a_m_fam, .inl (cJ, 130, .inr (.inl m_fam)))] := hD
    exact J25 (1 : Int32) H locs ls hf hP hD hS (lv_sub hl [0] rfl)
  · have hf := ctt (bI_1 h9) hf
    refine lv_aload_n hx hb dX10_arePersons_9 rfl (lv_at hl 0 rfl) ?_
    refine lv_iload_n hx hb dX10_arePersons_10 rfl (lv_at hl 2 rfl) ?_
    obtain ⟨r11, h9, hf⟩ := ob_s hf
    refine gcV (index := 234) S hE (c_X10_isPerson ad a_m_fam m_undoCount m_thrown m_hasSnapshot m_rows m_lineLength m_formattedLength m_bufferLength m_limit m_next m_beginsAt m_token m_error m_errorAt m_errorPosition m_nested m_codeCount m_fam v2 r11 h9) mX10_isPerson tw1576 ⟨Nat.le_of_ble_eq_true rfl, Nat.le_of_ble_eq_true rfl⟩ hP hD hS hA ⟨Nat.zero_le _, Nat.zero_le _⟩ 0 10 rfl rfl rfl (wr := []) [0, 1] [] rfl rfl rfl rfl (by decide) (As := [.int v2]) (rest := [.ref (ad 0)]) rfl hl.1 rfl (Nat.le_of_ble_eq_true rfl) dX10_arePersons_11 (fun H locs hP hD hS => ?_)
    refine W.eq (g2 := F0 m 14 ls [.int (bI r11), .ref (ad 0)]) rfl ?_
    have hP : va_P (dC, dI) vwCl [(ad 0, .inr (10, oM ad m_undoCount m_thrown m_hasSnapshot a_m_fam m_rows m_lineLength m_formattedLength m_bufferLength m_limit m_next m_beginsAt m_token m_error m_errorAt m_errorPosition m_nested m_codeCount)), (a_m_fam, .inl (cJ, 130, .inr (.inl m_fam)))] H := hP
    have hD : va_D A [(ad 0, .inr (10, oM ad m_undoCount m_thrown m_hasSnapshot a_m_fam m_rows m_lineLength m_formattedLength m_bufferLength m_limit m_next m_beginsAt m_token m_error m_errorAt m_errorPosition m_nested m_codeCount)), (a_m_fam, .inl (cJ, 130, .inr (.inl m_fam)))] := hD
    refine lv_if_eq (tgt := 21) hx hb dX10_arePersons_14 (by decide) (fun h9 => ?_) (fun h9 => ?_)
    · have hf := ctf (bI_0 h9) hf
      refine lv_iconst (v := 1) hx hb dX10_arePersons_21 (by decide) ?_
      refine va_put (D := (dC, dI)) (ci := 10) (v := .int (1 : Int32)) (ty := .int) (C := RX10) (T := TX10) (N := 37) hx hb htg inX10 tyX10 tyX10_ok nmX10 hown hE.1 hP hD hS 0 rfl rfl 5 (by decide) (htg _ tw1387) (fun _ h9 => h9) rfl (by decide +kernel) rfl rfl (Nat.le_of_ble_eq_true rfl) dX10_arePersons_22 (fun H locs hP hD hS => ?_)
      have hP : va_P (dC, dI) vwCl [(ad 0, .inr (10, oM ad m_undoCount (1 : Int32) m_hasSnapshot a_m_fam m_rows m_lineLength m_formattedLength m_bufferLength m_limit m_next m_beginsAt m_token m_error m_errorAt m_errorPosition m_nested m_codeCount)), (a_m_fam, .inl (cJ, 130, .inr (.inl m_fam)))] H := hP
      have hD : va_D A [(ad 0, .inr (10, oM ad m_undoCount (1 : Int32) m_hasSnapshot a_m_fam m_rows m_lineLength m_formattedLength m_bufferLength m_limit m_next m_beginsAt m_token m_error m_errorAt m_errorPosition m_nested m_codeCount)), (a_m_fam, .inl (cJ, 130, .inr (.inl m_fam)))] := hD
      exact J25 (1 : Int32) H locs ls hf hP hD hS (lv_sub hl [0] rfl)
    · have hf := ctt (bI_1 h9) hf
      refine lv_iconst (v := 0) hx hb dX10_arePersons_17 (by decide) ?_
      refine lv_goto (tgt := 22) hx hb dX10_arePersons_18 (by decide) ?_
      refine va_put (D := (dC, dI)) (ci := 10) (v := .int (0 : Int32)) (ty := .int) (C := RX10) (T := TX10) (N := 37) hx hb htg inX10 tyX10 tyX10_ok nmX10 hown hE.1 hP hD hS 0 rfl rfl 5 (by decide) (htg _ tw1387) (fun _ h9 => h9) rfl (by decide +kernel) rfl rfl (Nat.le_of_ble_eq_true rfl) dX10_arePersons_22 (fun H locs hP hD hS => ?_)
      have hP : va_P (dC, dI) vwCl [(ad 0, .inr (10, oM ad m_undoCount (0 : Int32) m_hasSnapshot a_m_fam m_rows m_lineLength m_formattedLength m_bufferLength m_limit m_next m_beginsAt m_token m_error m_errorAt m_errorPosition m_nested m_codeCount)), (a_m_fam, .inl (cJ, 130, .inr (.inl m_fam)))] H := hP
      have hD : va_D A [(ad 0, .inr (10, oM ad m_undoCount (0 : Int32) m_hasSnapshot a_m_fam m_rows m_lineLength m_formattedLength m_bufferLength m_limit m_next m_beginsAt m_token m_error m_errorAt m_errorPosition m_nested m_codeCount)), (a_m_fam, .inl (cJ, 130, .inr (.inl m_fam)))] := hD
      exact J25 (0 : Int32) H locs ls hf hP hD hS (lv_sub hl [0] rfl)
def p10_isParent (m_fam : Nat → Int64) (v1 : Int32) (v2 : Int32) : Option (Bool) := ob (p10_parentsOf m_fam v2) (fun r2 => (if r2 = (-1 : Int32) then some false else ob (p10_parentsOf m_fam v2) (fun r12 => ob (p10_isPartner m_fam r12 v1) (fun r16 => (cond r16 (some true) (some false))))))
set_option maxHeartbeats 4000000 in
set_option maxRecDepth 100000 in
theorem c_X10_isParent (ad : Nat → Nat) (a_m_fam : Nat) (m_undoCount : Int32) (m_thrown : Int32) (m_hasSnapshot : Bool) (m_rows : Int32) (m_lineLength : Int32) (m_formattedLength : Int32) (m_bufferLength : Int32) (m_limit : Int32) (m_next : Int32) (m_beginsAt : Int32) (m_token : Int32) (m_error : Int32) (m_errorAt : Int32) (m_errorPosition : Int32) (m_nested : Int32) (m_codeCount : Int32) (m_fam : Nat → Int64) (v1 : Int32) (v2 : Int32) (r9 : Bool) (hf : p10_isParent m_fam v1 v2 = some r9) : gM l dC dI cI cJ cZ yX10_isParent cX10_isParent 3 (some .boolean) (2) (44) [.ref (ad 0), .int v1, .int v2] [(ad 0, .inr (10, oM ad m_undoCount m_thrown m_hasSnapshot a_m_fam m_rows m_lineLength m_formattedLength m_bufferLength m_limit m_next m_beginsAt m_token m_error m_errorAt m_errorPosition m_nested m_codeCount)), (a_m_fam, .inl (cJ, 130, .inr (.inl m_fam)))] [(ad 0, .inr (10, oM ad m_undoCount m_thrown m_hasSnapshot a_m_fam m_rows m_lineLength m_formattedLength m_bufferLength m_limit m_next m_beginsAt m_token m_error m_errorAt m_errorPosition m_nested m_codeCount)), (a_m_fam, .inl (cJ, 130, .inr (.inl m_fam)))] (some (.int (bI r9))) := by
  refine g_start (own := RX10) (by decide +kernel) rfl (Nat.le_of_ble_eq_true rfl) ?_
  intro p e s m below meth c A ls S hr hlocks hE hP hD hS hA hl hin
  have hx := S.1
  have hb := S.2.1
  have hml := S.2.2.1
  have hown := S.2.2.2.1
  have htg : ∀ z ∈ gw, z.before ([.ref (ad 0), .int v1, .int v2] : List Value).toArray s = true := fun w h => S.2.2.2.2 w (List.mem_cons_of_mem _ h)
  have hl : lv_has ls 3 [(0, .ref (ad 0)), (1, .int v1), (2, .int v2)] := hl
  have hS0 := hS
  obtain ⟨H, hH⟩ : ∃ H, H = s.heap := ⟨_, rfl⟩
  obtain ⟨locs, hlc⟩ : ∃ locs : List Loc, locs = [] := ⟨_, rfl⟩
  have hS : va_S A s.heap H locs := by rw [hH, hlc]; exact hS0
  have hP : va_P (dC, dI) vwCl [(ad 0, .inr (10, oM ad m_undoCount m_thrown m_hasSnapshot a_m_fam m_rows m_lineLength m_formattedLength m_bufferLength m_limit m_next m_beginsAt m_token m_error m_errorAt m_errorPosition m_nested m_codeCount)), (a_m_fam, .inl (cJ, 130, .inr (.inl m_fam)))] H := by rw [hH]; exact hP
  suffices hgo : W p l e ({ frames := 2, cells := 0, slots := 0, locals := 44 }) s m ([.ref (ad 0), .int v1, .int v2] : List Value).toArray below meth c H locs 0 0 (MQ below (gQ dC dI (some (.int (bI r9))) A [(ad 0, .inr (10, oM ad m_undoCount m_thrown m_hasSnapshot a_m_fam m_rows m_lineLength m_formattedLength m_bufferLength m_limit m_next m_beginsAt m_token m_error m_errorAt m_errorPosition m_nested m_codeCount)), (a_m_fam, .inl (cJ, 130, .inr (.inl m_fam)))]) ([.ref (ad 0), .int v1, .int v2] : List Value).toArray s 0 0 A) (F0 m 0 ls []) by rw [hH, hlc] at hgo; exact hgo
  rw [p10_isParent] at hf
  refine lv_aload_n hx hb dX10_isParent_0 rfl (lv_at hl 0 rfl) ?_
  refine lv_iload_n hx hb dX10_isParent_1 rfl (lv_at hl 2 rfl) ?_
  obtain ⟨r2, h9, hf⟩ := ob_s hf
  refine gcV (index := 117) S hE (c_X10_parentsOf ad a_m_fam m_undoCount m_thrown m_hasSnapshot m_rows m_lineLength m_formattedLength m_bufferLength m_limit m_next m_beginsAt m_token m_error m_errorAt m_errorPosition m_nested m_codeCount m_fam v2 r2 h9) mX10_parentsOf tw1515 ⟨Nat.le_of_ble_eq_true rfl, Nat.le_of_ble_eq_true rfl⟩ hP hD hS hA ⟨Nat.zero_le _, Nat.zero_le _⟩ 0 10 rfl rfl rfl (wr := []) [0, 1] [] rfl rfl rfl rfl (by decide) (As := [.int v2]) (rest := []) rfl hl.1 rfl (Nat.le_of_ble_eq_true rfl) dX10_isParent_2 (fun H locs hP hD hS => ?_)
  refine W.eq (g2 := F0 m 5 ls [.int r2]) rfl ?_
  have hP : va_P (dC, dI) vwCl [(ad 0, .inr (10, oM ad m_undoCount m_thrown m_hasSnapshot a_m_fam m_rows m_lineLength m_formattedLength m_bufferLength m_limit m_next m_beginsAt m_token m_error m_errorAt m_errorPosition m_nested m_codeCount)), (a_m_fam, .inl (cJ, 130, .inr (.inl m_fam)))] H := hP
  have hD : va_D A [(ad 0, .inr (10, oM ad m_undoCount m_thrown m_hasSnapshot a_m_fam m_rows m_lineLength m_formattedLength m_bufferLength m_limit m_next m_beginsAt m_token m_error m_errorAt m_errorPosition m_nested m_codeCount)), (a_m_fam, .inl (cJ, 130, .inr (.inl m_fam)))] := hD
  refine lv_iconst (v := -1) hx hb dX10_isParent_5 (by decide) ?_
  refine lv_icmp_eq (tgt := 26) hx hb dX10_isParent_6 (by decide) (fun h9 => ?_) (fun h9 => ?_)
  · have hf := itt h9 hf
    refine lv_iconst (v := 0) hx hb dX10_isParent_26 (by decide) ?_
    cases hf
    exact g_zret S hr (nar_bI false) hlocks hP hD hS dX10_isParent_27
  · have hf := itf h9 hf
    refine lv_aload_n hx hb dX10_isParent_9 rfl (lv_at hl 0 rfl) ?_
    refine lv_aload_n hx hb dX10_isParent_10 rfl (lv_at hl 0 rfl) ?_
    refine lv_iload_n hx hb dX10_isParent_11 rfl (lv_at hl 2 rfl) ?_
    obtain ⟨r12, h9, hf⟩ := ob_s hf
    refine gcV (index := 117) S hE (c_X10_parentsOf ad a_m_fam m_undoCount m_thrown m_hasSnapshot m_rows m_lineLength m_formattedLength m_bufferLength m_limit m_next m_beginsAt m_token m_error m_errorAt m_errorPosition m_nested m_codeCount m_fam v2 r12 h9) mX10_parentsOf tw1515 ⟨Nat.le_of_ble_eq_true rfl, Nat.le_of_ble_eq_true rfl⟩ hP hD hS hA ⟨Nat.zero_le _, Nat.zero_le _⟩ 0 10 rfl rfl rfl (wr := []) [0, 1] [] rfl rfl rfl rfl (by decide) (As := [.int v2]) (rest := [.ref (ad 0)]) rfl hl.1 rfl (Nat.le_of_ble_eq_true rfl) dX10_isParent_12 (fun H locs hP hD hS => ?_)
    refine W.eq (g2 := F0 m 15 ls [.int r12, .ref (ad 0)]) rfl ?_
    have hP : va_P (dC, dI) vwCl [(ad 0, .inr (10, oM ad m_undoCount m_thrown m_hasSnapshot a_m_fam m_rows m_lineLength m_formattedLength m_bufferLength m_limit m_next m_beginsAt m_token m_error m_errorAt m_errorPosition m_nested m_codeCount)), (a_m_fam, .inl (cJ, 130, .inr (.inl m_fam)))] H := hP
    have hD : va_D A [(ad 0, .inr (10, oM ad m_undoCount m_thrown m_hasSnapshot a_m_fam m_rows m_lineLength m_formattedLength m_bufferLength m_limit m_next m_beginsAt m_token m_error m_errorAt m_errorPosition m_nested m_codeCount)), (a_m_fam, .inl (cJ, 130, .inr (.inl m_fam)))] := hD
    refine lv_iload_n hx hb dX10_isParent_15 rfl (lv_at hl 1 rfl) ?_
    obtain ⟨r16, h9, hf⟩ := ob_s hf
    refine gcV (index := 113) S hE (c_X10_isPartner ad a_m_fam m_undoCount m_thrown m_hasSnapshot m_rows m_lineLength m_formattedLength m_bufferLength m_limit m_next m_beginsAt m_token m_error m_errorAt m_errorPosition m_nested m_codeCount m_fam r12 v1 r16 h9) mX10_isPartner tw1564 ⟨Nat.le_of_ble_eq_true rfl, Nat.le_of_ble_eq_true rfl⟩ hP hD hS hA ⟨Nat.zero_le _, Nat.zero_le _⟩ 0 10 rfl rfl rfl (wr := []) [0, 1] [] rfl rfl rfl rfl (by decide) (As := [.int r12, .int v1]) (rest := []) rfl hl.1 rfl (Nat.le_of_ble_eq_true rfl) dX10_isParent_16 (fun H locs hP hD hS => ?_)
    refine W.eq (g2 := F0 m 19 ls [.int (bI r16)]) rfl ?_
    have hP : va_P (dC, dI) vwCl [(ad 0, .inr (10, oM ad m_undoCount m_thrown m_hasSnapshot a_m_fam m_rows m_lineLength m_formattedLength m_bufferLength m_limit m_next m_beginsAt m_token m_error m_errorAt m_errorPosition m_nested m_codeCount)), (a_m_fam, .inl (cJ, 130, .inr (.inl m_fam)))] H := hP
    have hD : va_D A [(ad 0, .inr (10, oM ad m_undoCount m_thrown m_hasSnapshot a_m_fam m_rows m_lineLength m_formattedLength m_bufferLength m_limit m_next m_beginsAt m_token m_error m_errorAt m_errorPosition m_nested m_codeCount)), (a_m_fam, .inl (cJ, 130, .inr (.inl m_fam)))] := hD
    refine lv_if_eq (tgt := 26) hx hb dX10_isParent_19 (by decide) (fun h9 => ?_) (fun h9 => ?_)
    · have hf := ctf (bI_0 h9) hf
      refine lv_iconst (v := 0) hx hb dX10_isParent_26 (by decide) ?_
      cases hf
      exact g_zret S hr (nar_bI false) hlocks hP hD hS dX10_isParent_27
    · have hf := ctt (bI_1 h9) hf
      refine lv_iconst (v := 1) hx hb dX10_isParent_22 (by decide) ?_
      refine lv_goto (tgt := 27) hx hb dX10_isParent_23 (by decide) ?_
      cases hf
      exact g_zret S hr (nar_bI true) hlocks hP hD hS dX10_isParent_27
def p10_distance_J138 (v2 : Int32) (v3_138 : Int32) (v5_138 : Int32) (m_thrown_138 : Int32) : Option (Int32 × Int32) := (if ((v3_138 >>> (v2 &&& 31)) &&& (1 : Int32)) = (1 : Int32) then some (v5_138, m_thrown_138) else some ((-1 : Int32), m_thrown_138))
def p10_distance_J119 (k21 : Int32 → Int32 → Int32 → Option (Int32 × Int32)) (v3_21 : Int32) (v5_21 : Int32) (v6_119 : Int32) : Option (Int32 × Int32) := lb (v6_119 &&& (v3_21 ^^^ (-1 : Int32))) (fun t125 => lb (v3_21 ||| v6_119) (fun t131 => lb (v5_21 + (1 : Int32)) (fun t132 => (k21 t131 t125 t132))))
def p10_distance_J113 (k40 : Int32 → Int32 → Option (Int32)) (v7_40 : Int32) (v6_113 : Int32) : Option (Int32) := lb (v7_40 + (1 : Int32)) (fun t113 => (k40 v6_113 t113))
def p10_distance_L52_B (m_fam : Nat → Int64) (v4_21 : Int32) (v7_40 : Int32) (k52 : Int32 → Int32 → Option (Int32)) (v6_52 : Int32) (v8_52 : Int32) : Option (Int32) := ob (p10_persons m_fam) (fun r55 => (if r55 ≤ v8_52 then some v6_52 else (if ((v4_21 >>> (v7_40 &&& 31)) &&& (1 : Int32)) = (1 : Int32) then ob (p10_isParent m_fam v7_40 v8_52) (fun r79 => (cond r79 (lb (v6_52 ||| ((1 : Int32) <<< (v8_52 &&& 31))) (fun t105 => lb (v8_52 + (1 : Int32)) (fun t107 => (k52 t105 t107)))) (ob (p10_isParent m_fam v8_52 v7_40) (fun r90 => (cond r90 (lb (v6_52 ||| ((1 : Int32) <<< (v8_52 &&& 31))) (fun t105 => lb (v8_52 + (1 : Int32)) (fun t107 => (k52 t105 t107)))) (lb (v6_52 ||| (0 : Int32)) (fun t105 => lb (v8_52 + (1 : Int32)) (fun t107 => (k52 t105 t107))))))))) else some v6_52)))
def p10_distance_L52 (m_fam : Nat → Int64) (v4_21 : Int32) (v7_40 : Int32) : Nat → Int32 → Int32 → Option (Int32)
  | 0, _, _ => none
  | n+1, v6_52, v8_52 => p10_distance_L52_B m_fam v4_21 v7_40 (p10_distance_L52 m_fam v4_21 v7_40 n) v6_52 v8_52
def p10_distance_L40_B (m_fam : Nat → Int64) (v4_21 : Int32) (k40 : Int32 → Int32 → Option (Int32)) (v6_40 : Int32) (v7_40 : Int32) : Option (Int32) := ob (p10_persons m_fam) (fun r43 => (if r43 ≤ v7_40 then some v6_40 else (ob (p10_distance_L52 m_fam v4_21 v7_40 FU v6_40 (0 : Int32)) (fun v6_x52 => p10_distance_J113 k40 v7_40 v6_x52))))
def p10_distance_L40 (m_fam : Nat → Int64) (v4_21 : Int32) : Nat → Int32 → Int32 → Option (Int32)
  | 0, _, _ => none
  | n+1, v6_40, v7_40 => p10_distance_L40_B m_fam v4_21 (p10_distance_L40 m_fam v4_21 n) v6_40 v7_40
def p10_distance_L21_B (m_fam : Nat → Int64) (v2 : Int32) (k21 : Int32 → Int32 → Int32 → Option (Int32 × Int32)) (v3_21 : Int32) (v4_21 : Int32) (v5_21 : Int32) : Option (Int32 × Int32) := (if ((v3_21 >>> (v2 &&& 31)) &&& (1 : Int32)) = (0 : Int32) then (if v4_21 = (0 : Int32) then some (v3_21, v5_21) else (ob (p10_distance_L40 m_fam v4_21 FU (0 : Int32) (0 : Int32)) (fun v6_x40 => p10_distance_J119 k21 v3_21 v5_21 v6_x40))) else some (v3_21, v5_21))
def p10_distance_L21 (m_fam : Nat → Int64) (v2 : Int32) : Nat → Int32 → Int32 → Int32 → Option (Int32 × Int32)
  | 0, _, _, _ => none
  | n+1, v3_21, v4_21, v5_21 => p10_distance_L21_B m_fam v2 (p10_distance_L21 m_fam v2 n) v3_21 v4_21 v5_21
def p10_distance (m_fam : Nat → Int64) (v1 : Int32) (v2 : Int32) : Option (Int32 × Int32) := ob (p10_arePersons m_fam v1 v2) (uc2 fun r3 m_thrown_3 => (cond r3 (lb ((1 : Int32) <<< (v1 &&& 31)) (fun t14 => (ob (p10_distance_L21 m_fam v2 FU t14 t14 (0 : Int32)) (uc2 fun v3_x21 v5_x21 => p10_distance_J138 v2 v3_x21 v5_x21 m_thrown_3)))) (some ((0 : Int32), m_thrown_3))))
set_option maxHeartbeats 4000000 in
set_option maxRecDepth 100000 in
theorem c_X10_distance (ad : Nat → Nat) (a_m_fam : Nat) (m_undoCount : Int32) (m_thrown : Int32) (m_hasSnapshot : Bool) (m_rows : Int32) (m_lineLength : Int32) (m_formattedLength : Int32) (m_bufferLength : Int32) (m_limit : Int32) (m_next : Int32) (m_beginsAt : Int32) (m_token : Int32) (m_error : Int32) (m_errorAt : Int32) (m_errorPosition : Int32) (m_nested : Int32) (m_codeCount : Int32) (m_fam : Nat → Int64) (v1 : Int32) (v2 : Int32) (r9 : Int32) (m_thrown_9 : Int32) (hf : p10_distance m_fam v1 v2 = some (r9, m_thrown_9)) : gM l dC dI cI cJ cZ yX10_distance cX10_distance 9 (some .int) (3) (68) [.ref (ad 0), .int v1, .int v2] [(ad 0, .inr (10, oM ad m_undoCount m_thrown m_hasSnapshot a_m_fam m_rows m_lineLength m_formattedLength m_bufferLength m_limit m_next m_beginsAt m_token m_error m_errorAt m_errorPosition m_nested m_codeCount)), (a_m_fam, .inl (cJ, 130, .inr (.inl m_fam)))] [(ad 0, .inr (10, oM ad m_undoCount m_thrown_9 m_hasSnapshot a_m_fam m_rows m_lineLength m_formattedLength m_bufferLength m_limit m_next m_beginsAt m_token m_error m_errorAt m_errorPosition m_nested m_codeCount)), (a_m_fam, .inl (cJ, 130, .inr (.inl m_fam)))] (some (.int r9)) := by
  refine g_start (own := RX10) (by decide +kernel) rfl (Nat.le_of_ble_eq_true rfl) ?_
  intro p e s m below meth c A ls S hr hlocks hE hP hD hS hA hl hin
  have hx := S.1
  have hb := S.2.1
  have hml := S.2.2.1
  have hown := S.2.2.2.1
  have htg : ∀ z ∈ gw, z.before ([.ref (ad 0), .int v1, .int v2] : List Value).toArray s = true := fun w h => S.2.2.2.2 w (List.mem_cons_of_mem _ h)
  have hl : lv_has ls 9 [(0, .ref (ad 0)), (1, .int v1), (2, .int v2)] := hl
  have hS0 := hS
  obtain ⟨H, hH⟩ : ∃ H, H = s.heap := ⟨_, rfl⟩
  obtain ⟨locs, hlc⟩ : ∃ locs : List Loc, locs = [] := ⟨_, rfl⟩
  have hS : va_S A s.heap H locs := by rw [hH, hlc]; exact hS0
  have hP : va_P (dC, dI) vwCl [(ad 0, .inr (10, oM ad m_undoCount m_thrown m_hasSnapshot a_m_fam m_rows m_lineLength m_formattedLength m_bufferLength m_limit m_next m_beginsAt m_token m_error m_errorAt m_errorPosition m_nested m_codeCount)), (a_m_fam, .inl (cJ, 130, .inr (.inl m_fam)))] H := by rw [hH]; exact hP
  suffices hgo : W p l e ({ frames := 3, cells := 0, slots := 0, locals := 68 }) s m ([.ref (ad 0), .int v1, .int v2] : List Value).toArray below meth c H locs 0 0 (MQ below (gQ dC dI (some (.int r9)) A [(ad 0, .inr (10, oM ad m_undoCount m_thrown_9 m_hasSnapshot a_m_fam m_rows m_lineLength m_formattedLength m_bufferLength m_limit m_next m_beginsAt m_token m_error m_errorAt m_errorPosition m_nested m_codeCount)), (a_m_fam, .inl (cJ, 130, .inr (.inl m_fam)))]) ([.ref (ad 0), .int v1, .int v2] : List Value).toArray s 0 0 A) (F0 m 0 ls []) by rw [hH, hlc] at hgo; exact hgo
  rw [p10_distance] at hf
  have J138 : ∀ (v3_138 : Int32) (v5_138 : Int32) (m_thrown_138 : Int32) (H : Heap) (locs : List Loc) (ls : Array Slot), p10_distance_J138 v2 v3_138 v5_138 m_thrown_138 = some (r9, m_thrown_9) → va_P (dC, dI) vwCl [(ad 0, .inr (10, oM ad m_undoCount m_thrown_138 m_hasSnapshot a_m_fam m_rows m_lineLength m_formattedLength m_bufferLength m_limit m_next m_beginsAt m_token m_error m_errorAt m_errorPosition m_nested m_codeCount)), (a_m_fam, .inl (cJ, 130, .inr (.inl m_fam)))] H → va_D A [(ad 0, .inr (10, oM ad m_undoCount m_thrown_138 m_hasSnapshot a_m_fam m_rows m_lineLength m_formattedLength m_bufferLength m_limit m_next m_beginsAt m_token m_error m_errorAt m_errorPosition m_nested m_codeCount)), (a_m_fam, .inl (cJ, 130, .inr (.inl m_fam)))] → va_S A s.heap H locs → lv_has ls 9 [(2, .int v2), (3, .int v3_138), (5, .int v5_138)] → W p l e ({ frames := 3, cells := 0, slots := 0, locals := 68 }) s m ([.ref (ad 0), .int v1, .int v2] : List Value).toArray below meth c H locs 0 0 (MQ below (gQ dC dI (some (.int r9)) A [(ad 0, .inr (10, oM ad m_undoCount m_thrown_9 m_hasSnapshot a_m_fam m_rows m_lineLength m_formattedLength m_bufferLength m_limit m_next m_beginsAt m_token m_error m_errorAt m_errorPosition m_nested m_codeCount)), (a_m_fam, .inl (cJ, 130, .inr (.inl m_fam)))]) ([.ref (ad 0), .int v1, .int v2] : List Value).toArray s 0 0 A) (F0 m 138 ls []) := by
    intro v3_138 v5_138 m_thrown_138 H locs ls hf hP hD hS hl
    rw [p10_distance_J138] at hf
    refine lv_iload_n hx hb dX10_distance_138 rfl (lv_at hl 1 rfl) ?_
    refine lv_iload_n hx hb dX10_distance_139 rfl (lv_at hl 0 rfl) ?_
    refine lv_ishr hx hb dX10_distance_140 ?_
    refine lv_iconst (v := 1) hx hb dX10_distance_141 (by decide) ?_
    refine lv_iand hx hb dX10_distance_142 ?_
    refine lv_iconst (v := 1) hx hb dX10_distance_143 (by decide) ?_
    refine lv_icmp_ne (tgt := 152) hx hb dX10_distance_144 (by decide) (fun h9 => ?_) (fun h9 => ?_)
    · have hf := itf h9 hf
      refine lv_iconst (v := -1) hx hb dX10_distance_152 (by decide) ?_
      cases hf
      exact g_iret S hr hlocks hP hD hS dX10_distance_153
    · have hf := itt h9 hf
      refine lv_iload hx hb dX10_distance_147 (lv_at hl 2 rfl) ?_
      refine lv_goto (tgt := 153) hx hb dX10_distance_149 (by decide) ?_
      cases hf
      exact g_iret S hr hlocks hP hD hS dX10_distance_153
  refine lv_aload_n hx hb dX10_distance_0 rfl (lv_at hl 0 rfl) ?_
  refine lv_iload_n hx hb dX10_distance_1 rfl (lv_at hl 1 rfl) ?_
  refine lv_iload_n hx hb dX10_distance_2 rfl (lv_at hl 2 rfl) ?_
  obtain ⟨⟨r3, m_thrown_3⟩, h9, hf⟩ := ob_s hf
  have hf := uc2_e hf
  refine gcV (index := 272) S hE (c_X10_arePersons ad a_m_fam m_undoCount m_thrown m_hasSnapshot m_rows m_lineLength m_formattedLength m_bufferLength m_limit m_next m_beginsAt m_token m_error m_errorAt m_errorPosition m_nested m_codeCount m_fam v1 v2 r3 m_thrown_3 h9) mX10_arePersons tw1664 ⟨Nat.le_of_ble_eq_true rfl, Nat.le_of_ble_eq_true rfl⟩ hP hD hS hA ⟨Nat.zero_le _, Nat.zero_le _⟩ 0 10 rfl rfl rfl (wr := []) [0, 1] [] rfl rfl rfl rfl (by decide) (As := [.int v1, .int v2]) (rest := []) rfl hl.1 rfl (Nat.le_of_ble_eq_true rfl) dX10_distance_3 (fun H locs hP hD hS => ?_)
  refine W.eq (g2 := F0 m 6 ls [.int (bI r3)]) rfl ?_
  have hP : va_P (dC, dI) vwCl [(ad 0, .inr (10, oM ad m_undoCount m_thrown_3 m_hasSnapshot a_m_fam m_rows m_lineLength m_formattedLength m_bufferLength m_limit m_next m_beginsAt m_token m_error m_errorAt m_errorPosition m_nested m_codeCount)), (a_m_fam, .inl (cJ, 130, .inr (.inl m_fam)))] H := hP
  have hD : va_D A [(ad 0, .inr (10, oM ad m_undoCount m_thrown_3 m_hasSnapshot a_m_fam m_rows m_lineLength m_formattedLength m_bufferLength m_limit m_next m_beginsAt m_token m_error m_errorAt m_errorPosition m_nested m_codeCount)), (a_m_fam, .inl (cJ, 130, .inr (.inl m_fam)))] := hD
  refine lv_if_ne (tgt := 11) hx hb dX10_distance_6 (by decide) (fun h9 => ?_) (fun h9 => ?_)
  · have hf := ctt (bI_1 h9) hf
    refine lv_iconst (v := 1) hx hb dX10_distance_11 (by decide) ?_
    refine lv_iload_n hx hb dX10_distance_12 rfl (lv_at hl 1 rfl) ?_
    refine lv_ishl hx hb dX10_distance_13 ?_
    refine lv_topi (fun t14 h9 => ?_)
    have hf := lb_e h9 hf
    refine lv_istore_n (lv' := [(3, .int t14), (0, .ref (ad 0)), (1, .int v1), (2, .int v2)]) hx hb dX10_distance_14 rfl hl (by decide) rfl (fun ls hl => ?_)
    refine lv_iload_n hx hb dX10_distance_15 rfl (lv_at hl 0 rfl) ?_
    refine lv_istore (lv' := [(4, .int t14), (3, .int t14), (0, .ref (ad 0)), (1, .int v1), (2, .int v2)]) hx hb dX10_distance_16 hl (by decide) rfl (fun ls hl => ?_)
    refine lv_iconst (v := 0) hx hb dX10_distance_18 (by decide) ?_
    refine lv_istore (lv' := [(5, .int (0 : Int32)), (4, .int t14), (3, .int t14), (0, .ref (ad 0)), (1, .int v1), (2, .int v2)]) hx hb dX10_distance_19 hl (by decide) rfl (fun ls hl => ?_)
    have K21 : ∀ (n21 : Nat) (v3_21 : Int32) (v4_21 : Int32) (v5_21 : Int32) (ex21 : Int32 × Int32) (H : Heap) (locs : List Loc) (ls : Array Slot), p10_distance_L21 m_fam v2 n21 v3_21 v4_21 v5_21 = some ex21 → (uc2 fun v3_x21 v5_x21 => p10_distance_J138 v2 v3_x21 v5_x21 m_thrown_3) ex21 = some (r9, m_thrown_9) → va_P (dC, dI) vwCl [(ad 0, .inr (10, oM ad m_undoCount m_thrown_3 m_hasSnapshot a_m_fam m_rows m_lineLength m_formattedLength m_bufferLength m_limit m_next m_beginsAt m_token m_error m_errorAt m_errorPosition m_nested m_codeCount)), (a_m_fam, .inl (cJ, 130, .inr (.inl m_fam)))] H → va_D A [(ad 0, .inr (10, oM ad m_undoCount m_thrown_3 m_hasSnapshot a_m_fam m_rows m_lineLength m_formattedLength m_bufferLength m_limit m_next m_beginsAt m_token m_error m_errorAt m_errorPosition m_nested m_codeCount)), (a_m_fam, .inl (cJ, 130, .inr (.inl m_fam)))] → va_S A s.heap H locs → lv_has ls 9 [(0, .ref (ad 0)), (2, .int v2), (3, .int v3_21), (4, .int v4_21), (5, .int v5_21)] → W p l e ({ frames := 3, cells := 0, slots := 0, locals := 68 }) s m ([.ref (ad 0), .int v1, .int v2] : List Value).toArray below meth c H locs 0 0 (MQ below (gQ dC dI (some (.int r9)) A [(ad 0, .inr (10, oM ad m_undoCount m_thrown_9 m_hasSnapshot a_m_fam m_rows m_lineLength m_formattedLength m_bufferLength m_limit m_next m_beginsAt m_token m_error m_errorAt m_errorPosition m_nested m_codeCount)), (a_m_fam, .inl (cJ, 130, .inr (.inl m_fam)))]) ([.ref (ad 0), .int v1, .int v2] : List Value).toArray s 0 0 A) (F0 m 21 ls []) := by
      intro n21
      induction n21 with
      | zero => intro v3_21 v4_21 v5_21 ex21 H locs ls hf; rw [p10_distance_L21] at hf; cases hf
      | succ n21 ih21 =>
        intro v3_21 v4_21 v5_21 ex21 H locs ls hf hk21 hP hD hS hl
        rw [p10_distance_L21, p10_distance_L21_B] at hf
        have J119 : ∀ (v6_119 : Int32) (H : Heap) (locs : List Loc) (ls : Array Slot), p10_distance_J119 (p10_distance_L21 m_fam v2 n21) v3_21 v5_21 v6_119 = some ex21 → va_P (dC, dI) vwCl [(ad 0, .inr (10, oM ad m_undoCount m_thrown_3 m_hasSnapshot a_m_fam m_rows m_lineLength m_formattedLength m_bufferLength m_limit m_next m_beginsAt m_token m_error m_errorAt m_errorPosition m_nested m_codeCount)), (a_m_fam, .inl (cJ, 130, .inr (.inl m_fam)))] H → va_D A [(ad 0, .inr (10, oM ad m_undoCount m_thrown_3 m_hasSnapshot a_m_fam m_rows m_lineLength m_formattedLength m_bufferLength m_limit m_next m_beginsAt m_token m_error m_errorAt m_errorPosition m_nested m_codeCount)), (a_m_fam, .inl (cJ, 130, .inr (.inl m_fam)))] → va_S A s.heap H locs → lv_has ls 9 [(0, .ref (ad 0)), (2, .int v2), (3, .int v3_21), (5, .int v5_21), (6, .int v6_119)] → W p l e ({ frames := 3, cells := 0, slots := 0, locals := 68 }) s m ([.ref (ad 0), .int v1, .int v2] : List Value).toArray below meth c H locs 0 0 (MQ below (gQ dC dI (some (.int r9)) A [(ad 0, .inr (10, oM ad m_undoCount m_thrown_9 m_hasSnapshot a_m_fam m_rows m_lineLength m_formattedLength m_bufferLength m_limit m_next m_beginsAt m_token m_error m_errorAt m_errorPosition m_nested m_codeCount)), (a_m_fam, .inl (cJ, 130, .inr (.inl m_fam)))]) ([.ref (ad 0), .int v1, .int v2] : List Value).toArray s 0 0 A) (F0 m 119 ls []) := by
          intro v6_119 H locs ls hf hP hD hS hl
          rw [p10_distance_J119] at hf
          refine lv_iload hx hb dX10_distance_119 (lv_at hl 4 rfl) ?_
          refine lv_iload_n hx hb dX10_distance_121 rfl (lv_at hl 2 rfl) ?_
          refine lv_iconst (v := -1) hx hb dX10_distance_122 (by decide) ?_
          refine lv_ixor hx hb dX10_distance_123 ?_
          refine lv_iand hx hb dX10_distance_124 ?_
          refine lv_topi (fun t125 h9 => ?_)
          have hf := lb_e h9 hf
          refine lv_istore (lv' := [(4, .int t125), (0, .ref (ad 0)), (2, .int v2), (3, .int v3_21), (5, .int v5_21), (6, .int v6_119)]) hx hb dX10_distance_125 hl (by decide) rfl (fun ls hl => ?_)
          refine lv_iload_n hx hb dX10_distance_127 rfl (lv_at hl 3 rfl) ?_
          refine lv_iload hx hb dX10_distance_128 (lv_at hl 5 rfl) ?_
          refine lv_ior hx hb dX10_distance_130 ?_
          refine lv_topi (fun t131 h9 => ?_)
          have hf := lb_e h9 hf
          refine lv_istore_n (lv' := [(3, .int t131), (4, .int t125), (0, .ref (ad 0)), (2, .int v2), (5, .int v5_21), (6, .int v6_119)]) hx hb dX10_distance_131 rfl hl (by decide) rfl (fun ls hl => ?_)
          obtain ⟨t132, h9⟩ : ∃ z : Int32, z = (v5_21 + (1 : Int32)) := ⟨_, rfl⟩
          have hf := lb_e h9 hf
          refine lv_iinc (v := t132) (lv' := [(5, .int t132), (3, .int t131), (4, .int t125), (0, .ref (ad 0)), (2, .int v2), (6, .int v6_119)]) hx hb dX10_distance_132 hl (k := 4) rfl (by rw [h9]; rfl) (by decide) rfl (fun ls hl => ?_)
          refine lv_goto (tgt := 21) hx hb dX10_distance_135 (by decide) ?_
          exact ih21 t131 t125 t132 ex21 H locs ls hf hk21 hP hD hS (lv_sub hl [3, 4, 1, 2, 0] rfl)
        refine lv_iload_n hx hb dX10_distance_21 rfl (lv_at hl 2 rfl) ?_
        refine lv_iload_n hx hb dX10_distance_22 rfl (lv_at hl 1 rfl) ?_
        refine lv_ishr hx hb dX10_distance_23 ?_
        refine lv_iconst (v := 1) hx hb dX10_distance_24 (by decide) ?_
        refine lv_iand hx hb dX10_distance_25 ?_
        refine lv_if_ne (tgt := 138) hx hb dX10_distance_26 (by decide) (fun h9 => ?_) (fun h9 => ?_)
        · have hf := itf h9 hf
          cases hf
          have hf := hk21
          have hf := uc2_e hf
          exact J138 v3_21 v5_21 m_thrown_3 H locs ls hf hP hD hS (lv_sub hl [1, 2, 4] rfl)
        · have hf := itt h9 hf
          refine lv_iload hx hb dX10_distance_29 (lv_at hl 3 rfl) ?_
          refine lv_if_eq (tgt := 138) hx hb dX10_distance_31 (by decide) (fun h9 => ?_) (fun h9 => ?_)
          · have hf := itt h9 hf
            cases hf
            have hf := hk21
            have hf := uc2_e hf
            exact J138 v3_21 v5_21 m_thrown_3 H locs ls hf hP hD hS (lv_sub hl [1, 2, 4] rfl)
          · have hf := itf h9 hf
            refine lv_iconst (v := 0) hx hb dX10_distance_34 (by decide) ?_
            refine lv_istore (lv' := [(6, .int (0 : Int32)), (0, .ref (ad 0)), (2, .int v2), (3, .int v3_21), (4, .int v4_21), (5, .int v5_21)]) hx hb dX10_distance_35 hl (by decide) rfl (fun ls hl => ?_)
            refine lv_iconst (v := 0) hx hb dX10_distance_37 (by decide) ?_
            refine lv_istore (lv' := [(7, .int (0 : Int32)), (6, .int (0 : Int32)), (0, .ref (ad 0)), (2, .int v2), (3, .int v3_21), (4, .int v4_21), (5, .int v5_21)]) hx hb dX10_distance_38 hl (by decide) rfl (fun ls hl => ?_)
            have K40 : ∀ (n40 : Nat) (v6_40 : Int32) (v7_40 : Int32) (ex40 : Int32) (H : Heap) (locs : List Loc) (ls : Array Slot), p10_distance_L40 m_fam v4_21 n40 v6_40 v7_40 = some ex40 → (fun v6_x40 => p10_distance_J119 (p10_distance_L21 m_fam v2 n21) v3_21 v5_21 v6_x40) ex40 = some ex21 → va_P (dC, dI) vwCl [(ad 0, .inr (10, oM ad m_undoCount m_thrown_3 m_hasSnapshot a_m_fam m_rows m_lineLength m_formattedLength m_bufferLength m_limit m_next m_beginsAt m_token m_error m_errorAt m_errorPosition m_nested m_codeCount)), (a_m_fam, .inl (cJ, 130, .inr (.inl m_fam)))] H → va_D A [(ad 0, .inr (10, oM ad m_undoCount m_thrown_3 m_hasSnapshot a_m_fam m_rows m_lineLength m_formattedLength m_bufferLength m_limit m_next m_beginsAt m_token m_error m_errorAt m_errorPosition m_nested m_codeCount)), (a_m_fam, .inl (cJ, 130, .inr (.inl m_fam)))] → va_S A s.heap H locs → lv_has ls 9 [(0, .ref (ad 0)), (2, .int v2), (3, .int v3_21), (4, .int v4_21), (5, .int v5_21), (6, .int v6_40), (7, .int v7_40)] → W p l e ({ frames := 3, cells := 0, slots := 0, locals := 68 }) s m ([.ref (ad 0), .int v1, .int v2] : List Value).toArray below meth c H locs 0 0 (MQ below (gQ dC dI (some (.int r9)) A [(ad 0, .inr (10, oM ad m_undoCount m_thrown_9 m_hasSnapshot a_m_fam m_rows m_lineLength m_formattedLength m_bufferLength m_limit m_next m_beginsAt m_token m_error m_errorAt m_errorPosition m_nested m_codeCount)), (a_m_fam, .inl (cJ, 130, .inr (.inl m_fam)))]) ([.ref (ad 0), .int v1, .int v2] : List Value).toArray s 0 0 A) (F0 m 40 ls []) := by
              intro n40
              induction n40 with
              | zero => intro v6_40 v7_40 ex40 H locs ls hf; rw [p10_distance_L40] at hf; cases hf
              | succ n40 ih40 =>
                intro v6_40 v7_40 ex40 H locs ls hf hk40 hP hD hS hl
                rw [p10_distance_L40, p10_distance_L40_B] at hf
                have J113 : ∀ (v6_113 : Int32) (H : Heap) (locs : List Loc) (ls : Array Slot), p10_distance_J113 (p10_distance_L40 m_fam v4_21 n40) v7_40 v6_113 = some ex40 → va_P (dC, dI) vwCl [(ad 0, .inr (10, oM ad m_undoCount m_thrown_3 m_hasSnapshot a_m_fam m_rows m_lineLength m_formattedLength m_bufferLength m_limit m_next m_beginsAt m_token m_error m_errorAt m_errorPosition m_nested m_codeCount)), (a_m_fam, .inl (cJ, 130, .inr (.inl m_fam)))] H → va_D A [(ad 0, .inr (10, oM ad m_undoCount m_thrown_3 m_hasSnapshot a_m_fam m_rows m_lineLength m_formattedLength m_bufferLength m_limit m_next m_beginsAt m_token m_error m_errorAt m_errorPosition m_nested m_codeCount)), (a_m_fam, .inl (cJ, 130, .inr (.inl m_fam)))] → va_S A s.heap H locs → lv_has ls 9 [(0, .ref (ad 0)), (2, .int v2), (3, .int v3_21), (4, .int v4_21), (5, .int v5_21), (6, .int v6_113), (7, .int v7_40)] → W p l e ({ frames := 3, cells := 0, slots := 0, locals := 68 }) s m ([.ref (ad 0), .int v1, .int v2] : List Value).toArray below meth c H locs 0 0 (MQ below (gQ dC dI (some (.int r9)) A [(ad 0, .inr (10, oM ad m_undoCount m_thrown_9 m_hasSnapshot a_m_fam m_rows m_lineLength m_formattedLength m_bufferLength m_limit m_next m_beginsAt m_token m_error m_errorAt m_errorPosition m_nested m_codeCount)), (a_m_fam, .inl (cJ, 130, .inr (.inl m_fam)))]) ([.ref (ad 0), .int v1, .int v2] : List Value).toArray s 0 0 A) (F0 m 113 ls []) := by
                  intro v6_113 H locs ls hf hP hD hS hl
                  rw [p10_distance_J113] at hf
                  obtain ⟨t113, h9⟩ : ∃ z : Int32, z = (v7_40 + (1 : Int32)) := ⟨_, rfl⟩
                  have hf := lb_e h9 hf
                  refine lv_iinc (v := t113) (lv' := [(7, .int t113), (0, .ref (ad 0)), (2, .int v2), (3, .int v3_21), (4, .int v4_21), (5, .int v5_21), (6, .int v6_113)]) hx hb dX10_distance_113 hl (k := 6) rfl (by rw [h9]; rfl) (by decide) rfl (fun ls hl => ?_)
                  refine lv_goto (tgt := 40) hx hb dX10_distance_116 (by decide) ?_
                  exact ih40 v6_113 t113 ex40 H locs ls hf hk40 hP hD hS (lv_sub hl [1, 2, 3, 4, 5, 6, 0] rfl)
                refine lv_iload hx hb dX10_distance_40 (lv_at hl 6 rfl) ?_
                refine lv_aload_n hx hb dX10_distance_42 rfl (lv_at hl 0 rfl) ?_
                obtain ⟨r43, h9, hf⟩ := ob_s hf
                refine gcV (index := 121) S hE (c_X10_persons ad a_m_fam m_undoCount m_thrown_3 m_hasSnapshot m_rows m_lineLength m_formattedLength m_bufferLength m_limit m_next m_beginsAt m_token m_error m_errorAt m_errorPosition m_nested m_codeCount m_fam r43 h9) mX10_persons tw1511 ⟨Nat.le_of_ble_eq_true rfl, Nat.le_of_ble_eq_true rfl⟩ hP hD hS hA ⟨Nat.zero_le _, Nat.zero_le _⟩ 0 10 rfl rfl rfl (wr := []) [0, 1] [] rfl rfl rfl rfl (by decide) (As := []) (rest := [.int v7_40]) rfl hl.1 rfl (Nat.le_of_ble_eq_true rfl) dX10_distance_43 (fun H locs hP hD hS => ?_)
                refine W.eq (g2 := F0 m 46 ls [.int r43, .int v7_40]) rfl ?_
                have hP : va_P (dC, dI) vwCl [(ad 0, .inr (10, oM ad m_undoCount m_thrown_3 m_hasSnapshot a_m_fam m_rows m_lineLength m_formattedLength m_bufferLength m_limit m_next m_beginsAt m_token m_error m_errorAt m_errorPosition m_nested m_codeCount)), (a_m_fam, .inl (cJ, 130, .inr (.inl m_fam)))] H := hP
                have hD : va_D A [(ad 0, .inr (10, oM ad m_undoCount m_thrown_3 m_hasSnapshot a_m_fam m_rows m_lineLength m_formattedLength m_bufferLength m_limit m_next m_beginsAt m_token m_error m_errorAt m_errorPosition m_nested m_codeCount)), (a_m_fam, .inl (cJ, 130, .inr (.inl m_fam)))] := hD
                refine lv_icmp_ge (tgt := 119) hx hb dX10_distance_46 (by decide) (fun h9 => ?_) (fun h9 => ?_)
                · have hf := itt h9 hf
                  cases hf
                  have hf := hk40
                  exact J119 v6_40 H locs ls hf hP hD hS (lv_sub hl [0, 1, 2, 4, 5] rfl)
                · have hf := itf h9 hf
                  refine lv_iconst (v := 0) hx hb dX10_distance_49 (by decide) ?_
                  refine lv_istore (lv' := [(8, .int (0 : Int32)), (0, .ref (ad 0)), (2, .int v2), (3, .int v3_21), (4, .int v4_21), (5, .int v5_21), (6, .int v6_40), (7, .int v7_40)]) hx hb dX10_distance_50 hl (by decide) rfl (fun ls hl => ?_)
                  have K52 : ∀ (n52 : Nat) (v6_52 : Int32) (v8_52 : Int32) (ex52 : Int32) (H : Heap) (locs : List Loc) (ls : Array Slot), p10_distance_L52 m_fam v4_21 v7_40 n52 v6_52 v8_52 = some ex52 → (fun v6_x52 => p10_distance_J113 (p10_distance_L40 m_fam v4_21 n40) v7_40 v6_x52) ex52 = some ex40 → va_P (dC, dI) vwCl [(ad 0, .inr (10, oM ad m_undoCount m_thrown_3 m_hasSnapshot a_m_fam m_rows m_lineLength m_formattedLength m_bufferLength m_limit m_next m_beginsAt m_token m_error m_errorAt m_errorPosition m_nested m_codeCount)), (a_m_fam, .inl (cJ, 130, .inr (.inl m_fam)))] H → va_D A [(ad 0, .inr (10, oM ad m_undoCount m_thrown_3 m_hasSnapshot a_m_fam m_rows m_lineLength m_formattedLength m_bufferLength m_limit m_next m_beginsAt m_token m_error m_errorAt m_errorPosition m_nested m_codeCount)), (a_m_fam, .inl (cJ, 130, .inr (.inl m_fam)))] → va_S A s.heap H locs → lv_has ls 9 [(0, .ref (ad 0)), (2, .int v2), (3, .int v3_21), (4, .int v4_21), (5, .int v5_21), (6, .int v6_52), (7, .int v7_40), (8, .int v8_52)] → W p l e ({ frames := 3, cells := 0, slots := 0, locals := 68 }) s m ([.ref (ad 0), .int v1, .int v2] : List Value).toArray below meth c H locs 0 0 (MQ below (gQ dC dI (some (.int r9)) A [(ad 0, .inr (10, oM ad m_undoCount m_thrown_9 m_hasSnapshot a_m_fam m_rows m_lineLength m_formattedLength m_bufferLength m_limit m_next m_beginsAt m_token m_error m_errorAt m_errorPosition m_nested m_codeCount)), (a_m_fam, .inl (cJ, 130, .inr (.inl m_fam)))]) ([.ref (ad 0), .int v1, .int v2] : List Value).toArray s 0 0 A) (F0 m 52 ls []) := by
                    intro n52
                    induction n52 with
                    | zero => intro v6_52 v8_52 ex52 H locs ls hf; rw [p10_distance_L52] at hf; cases hf
                    | succ n52 ih52 =>
                      intro v6_52 v8_52 ex52 H locs ls hf hk52 hP hD hS hl
                      rw [p10_distance_L52, p10_distance_L52_B] at hf
                      refine lv_iload hx hb dX10_distance_52 (lv_at hl 7 rfl) ?_
                      refine lv_aload_n hx hb dX10_distance_54 rfl (lv_at hl 0 rfl) ?_
                      obtain ⟨r55, h9, hf⟩ := ob_s hf
                      refine gcV (index := 121) S hE (c_X10_persons ad a_m_fam m_undoCount m_thrown_3 m_hasSnapshot m_rows m_lineLength m_formattedLength m_bufferLength m_limit m_next m_beginsAt m_token m_error m_errorAt m_errorPosition m_nested m_codeCount m_fam r55 h9) mX10_persons tw1511 ⟨Nat.le_of_ble_eq_true rfl, Nat.le_of_ble_eq_true rfl⟩ hP hD hS hA ⟨Nat.zero_le _, Nat.zero_le _⟩ 0 10 rfl rfl rfl (wr := []) [0, 1] [] rfl rfl rfl rfl (by decide) (As := []) (rest := [.int v8_52]) rfl hl.1 rfl (Nat.le_of_ble_eq_true rfl) dX10_distance_55 (fun H locs hP hD hS => ?_)
                      refine W.eq (g2 := F0 m 58 ls [.int r55, .int v8_52]) rfl ?_
                      have hP : va_P (dC, dI) vwCl [(ad 0, .inr (10, oM ad m_undoCount m_thrown_3 m_hasSnapshot a_m_fam m_rows m_lineLength m_formattedLength m_bufferLength m_limit m_next m_beginsAt m_token m_error m_errorAt m_errorPosition m_nested m_codeCount)), (a_m_fam, .inl (cJ, 130, .inr (.inl m_fam)))] H := hP
                      have hD : va_D A [(ad 0, .inr (10, oM ad m_undoCount m_thrown_3 m_hasSnapshot a_m_fam m_rows m_lineLength m_formattedLength m_bufferLength m_limit m_next m_beginsAt m_token m_error m_errorAt m_errorPosition m_nested m_codeCount)), (a_m_fam, .inl (cJ, 130, .inr (.inl m_fam)))] := hD
                      refine lv_icmp_ge (tgt := 113) hx hb dX10_distance_58 (by decide) (fun h9 => ?_) (fun h9 => ?_)
                      · have hf := itt h9 hf
                        cases hf
                        have hf := hk52
                        exact J113 v6_52 H locs ls hf hP hD hS (lv_sub hl [0, 1, 2, 3, 4, 5, 6] rfl)
                      · have hf := itf h9 hf
                        refine lv_iload hx hb dX10_distance_61 (lv_at hl 3 rfl) ?_
                        refine lv_iload hx hb dX10_distance_63 (lv_at hl 6 rfl) ?_
                        refine lv_ishr hx hb dX10_distance_65 ?_
                        refine lv_iconst (v := 1) hx hb dX10_distance_66 (by decide) ?_
                        refine lv_iand hx hb dX10_distance_67 ?_
                        refine lv_iconst (v := 1) hx hb dX10_distance_68 (by decide) ?_
                        refine lv_icmp_ne (tgt := 113) hx hb dX10_distance_69 (by decide) (fun h9 => ?_) (fun h9 => ?_)
                        · have hf := itf h9 hf
                          cases hf
                          have hf := hk52
                          exact J113 v6_52 H locs ls hf hP hD hS (lv_sub hl [0, 1, 2, 3, 4, 5, 6] rfl)
                        · have hf := itt h9 hf
                          refine lv_iload hx hb dX10_distance_72 (lv_at hl 5 rfl) ?_
                          refine lv_aload_n hx hb dX10_distance_74 rfl (lv_at hl 0 rfl) ?_
                          refine lv_iload hx hb dX10_distance_75 (lv_at hl 6 rfl) ?_
                          refine lv_iload hx hb dX10_distance_77 (lv_at hl 7 rfl) ?_
                          obtain ⟨r79, h9, hf⟩ := ob_s hf
                          refine gcV (index := 278) S hE (c_X10_isParent ad a_m_fam m_undoCount m_thrown_3 m_hasSnapshot m_rows m_lineLength m_formattedLength m_bufferLength m_limit m_next m_beginsAt m_token m_error m_errorAt m_errorPosition m_nested m_codeCount m_fam v7_40 v8_52 r79 h9) mX10_isParent tw1687 ⟨Nat.le_of_ble_eq_true rfl, Nat.le_of_ble_eq_true rfl⟩ hP hD hS hA ⟨Nat.zero_le _, Nat.zero_le _⟩ 0 10 rfl rfl rfl (wr := []) [0, 1] [] rfl rfl rfl rfl (by decide) (As := [.int v7_40, .int v8_52]) (rest := [.int v6_52]) rfl hl.1 rfl (Nat.le_of_ble_eq_true rfl) dX10_distance_79 (fun H locs hP hD hS => ?_)
                          refine W.eq (g2 := F0 m 82 ls [.int (bI r79), .int v6_52]) rfl ?_
                          have hP : va_P (dC, dI) vwCl [(ad 0, .inr (10, oM ad m_undoCount m_thrown_3 m_hasSnapshot a_m_fam m_rows m_lineLength m_formattedLength m_bufferLength m_limit m_next m_beginsAt m_token m_error m_errorAt m_errorPosition m_nested m_codeCount)), (a_m_fam, .inl (cJ, 130, .inr (.inl m_fam)))] H := hP
                          have hD : va_D A [(ad 0, .inr (10, oM ad m_undoCount m_thrown_3 m_hasSnapshot a_m_fam m_rows m_lineLength m_formattedLength m_bufferLength m_limit m_next m_beginsAt m_token m_error m_errorAt m_errorPosition m_nested m_codeCount)), (a_m_fam, .inl (cJ, 130, .inr (.inl m_fam)))] := hD
                          refine lv_if_ne (tgt := 96) hx hb dX10_distance_82 (by decide) (fun h9 => ?_) (fun h9 => ?_)
                          · have hf := ctt (bI_1 h9) hf
                            refine lv_iconst (v := 1) hx hb dX10_distance_96 (by decide) ?_
                            refine lv_iload hx hb dX10_distance_97 (lv_at hl 7 rfl) ?_
                            refine lv_ishl hx hb dX10_distance_99 ?_
                            refine lv_goto (tgt := 104) hx hb dX10_distance_100 (by decide) ?_
                            refine lv_ior hx hb dX10_distance_104 ?_
                            refine lv_topi (fun t105 h9 => ?_)
                            have hf := lb_e h9 hf
                            refine lv_istore (lv' := [(6, .int t105), (0, .ref (ad 0)), (2, .int v2), (3, .int v3_21), (4, .int v4_21), (5, .int v5_21), (7, .int v7_40), (8, .int v8_52)]) hx hb dX10_distance_105 hl (by decide) rfl (fun ls hl => ?_)
                            obtain ⟨t107, h9⟩ : ∃ z : Int32, z = (v8_52 + (1 : Int32)) := ⟨_, rfl⟩
                            have hf := lb_e h9 hf
                            refine lv_iinc (v := t107) (lv' := [(8, .int t107), (6, .int t105), (0, .ref (ad 0)), (2, .int v2), (3, .int v3_21), (4, .int v4_21), (5, .int v5_21), (7, .int v7_40)]) hx hb dX10_distance_107 hl (k := 7) rfl (by rw [h9]; rfl) (by decide) rfl (fun ls hl => ?_)
                            refine lv_goto (tgt := 52) hx hb dX10_distance_110 (by decide) ?_
                            exact ih52 t105 t107 ex52 H locs ls hf hk52 hP hD hS (lv_sub hl [2, 3, 4, 5, 6, 1, 7, 0] rfl)
                          · have hf := ctf (bI_0 h9) hf
                            refine lv_aload_n hx hb dX10_distance_85 rfl (lv_at hl 0 rfl) ?_
                            refine lv_iload hx hb dX10_distance_86 (lv_at hl 7 rfl) ?_
                            refine lv_iload hx hb dX10_distance_88 (lv_at hl 6 rfl) ?_
                            obtain ⟨r90, h9, hf⟩ := ob_s hf
                            refine gcV (index := 278) S hE (c_X10_isParent ad a_m_fam m_undoCount m_thrown_3 m_hasSnapshot m_rows m_lineLength m_formattedLength m_bufferLength m_limit m_next m_beginsAt m_token m_error m_errorAt m_errorPosition m_nested m_codeCount m_fam v8_52 v7_40 r90 h9) mX10_isParent tw1687 ⟨Nat.le_of_ble_eq_true rfl, Nat.le_of_ble_eq_true rfl⟩ hP hD hS hA ⟨Nat.zero_le _, Nat.zero_le _⟩ 0 10 rfl rfl rfl (wr := []) [0, 1] [] rfl rfl rfl rfl (by decide) (As := [.int v8_52, .int v7_40]) (rest := [.int v6_52]) rfl hl.1 rfl (Nat.le_of_ble_eq_true rfl) dX10_distance_90 (fun H locs hP hD hS => ?_)
                            refine W.eq (g2 := F0 m 93 ls [.int (bI r90), .int v6_52]) rfl ?_
                            have hP : va_P (dC, dI) vwCl [(ad 0, .inr (10, oM ad m_undoCount m_thrown_3 m_hasSnapshot a_m_fam m_rows m_lineLength m_formattedLength m_bufferLength m_limit m_next m_beginsAt m_token m_error m_errorAt m_errorPosition m_nested m_codeCount)), (a_m_fam, .inl (cJ, 130, .inr (.inl m_fam)))] H := hP
                            have hD : va_D A [(ad 0, .inr (10, oM ad m_undoCount m_thrown_3 m_hasSnapshot a_m_fam m_rows m_lineLength m_formattedLength m_bufferLength m_limit m_next m_beginsAt m_token m_error m_errorAt m_errorPosition m_nested m_codeCount)), (a_m_fam, .inl (cJ, 130, .inr (.inl m_fam)))] := hD
                            refine lv_if_eq (tgt := 103) hx hb dX10_distance_93 (by decide) (fun h9 => ?_) (fun h9 => ?_)
                            · have hf := ctf (bI_0 h9) hf
                              refine lv_iconst (v := 0) hx hb dX10_distance_103 (by decide) ?_
                              refine lv_ior hx hb dX10_distance_104 ?_
                              refine lv_topi (fun t105 h9 => ?_)
                              have hf := lb_e h9 hf
                              refine lv_istore (lv' := [(6, .int t105), (0, .ref (ad 0)), (2, .int v2), (3, .int v3_21), (4, .int v4_21), (5, .int v5_21), (7, .int v7_40), (8, .int v8_52)]) hx hb dX10_distance_105 hl (by decide) rfl (fun ls hl => ?_)
                              obtain ⟨t107, h9⟩ : ∃ z : Int32, z = (v8_52 + (1 : Int32)) := ⟨_, rfl⟩
                              have hf := lb_e h9 hf
                              refine lv_iinc (v := t107) (lv' := [(8, .int t107), (6, .int t105), (0, .ref (ad 0)), (2, .int v2), (3, .int v3_21), (4, .int v4_21), (5, .int v5_21), (7, .int v7_40)]) hx hb dX10_distance_107 hl (k := 7) rfl (by rw [h9]; rfl) (by decide) rfl (fun ls hl => ?_)
                              refine lv_goto (tgt := 52) hx hb dX10_distance_110 (by decide) ?_
                              exact ih52 t105 t107 ex52 H locs ls hf hk52 hP hD hS (lv_sub hl [2, 3, 4, 5, 6, 1, 7, 0] rfl)
                            · have hf := ctt (bI_1 h9) hf
                              refine lv_iconst (v := 1) hx hb dX10_distance_96 (by decide) ?_
                              refine lv_iload hx hb dX10_distance_97 (lv_at hl 7 rfl) ?_
                              refine lv_ishl hx hb dX10_distance_99 ?_
                              refine lv_goto (tgt := 104) hx hb dX10_distance_100 (by decide) ?_
                              refine lv_ior hx hb dX10_distance_104 ?_
                              refine lv_topi (fun t105 h9 => ?_)
                              have hf := lb_e h9 hf
                              refine lv_istore (lv' := [(6, .int t105), (0, .ref (ad 0)), (2, .int v2), (3, .int v3_21), (4, .int v4_21), (5, .int v5_21), (7, .int v7_40), (8, .int v8_52)]) hx hb dX10_distance_105 hl (by decide) rfl (fun ls hl => ?_)
                              obtain ⟨t107, h9⟩ : ∃ z : Int32, z = (v8_52 + (1 : Int32)) := ⟨_, rfl⟩
                              have hf := lb_e h9 hf
                              refine lv_iinc (v := t107) (lv' := [(8, .int t107), (6, .int t105), (0, .ref (ad 0)), (2, .int v2), (3, .int v3_21), (4, .int v4_21), (5, .int v5_21), (7, .int v7_40)]) hx hb dX10_distance_107 hl (k := 7) rfl (by rw [h9]; rfl) (by decide) rfl (fun ls hl => ?_)
                              refine lv_goto (tgt := 52) hx hb dX10_distance_110 (by decide) ?_
                              exact ih52 t105 t107 ex52 H locs ls hf hk52 hP hD hS (lv_sub hl [2, 3, 4, 5, 6, 1, 7, 0] rfl)
                  obtain ⟨ex, h9, hf⟩ := ob_s hf
                  exact K52 FU v6_40 (0 : Int32) ex H locs ls h9 hf hP hD hS (lv_sub hl [1, 2, 3, 4, 5, 6, 7, 0] rfl)
            obtain ⟨ex, h9, hf⟩ := ob_s hf
            exact K40 FU (0 : Int32) (0 : Int32) ex H locs ls h9 hf hP hD hS (lv_sub hl [2, 3, 4, 5, 6, 1, 0] rfl)
    obtain ⟨ex, h9, hf⟩ := ob_s hf
    exact K21 FU t14 t14 (0 : Int32) ex H locs ls h9 hf hP hD hS (lv_sub hl [3, 5, 2, 1, 0] rfl)
  · have hf := ctf (bI_0 h9) hf
    refine lv_iconst (v := 0) hx hb dX10_distance_9 (by decide) ?_
    cases hf
    exact g_iret S hr hlocks hP hD hS dX10_distance_10
def p10_beginWays_J30 (m_ways_30 : Nat → Int32) : Option ((Nat → Int32)) := some m_ways_30
def p10_beginWays_L2_B (v1 : Int32) (k2 : Int32 → (Nat → Int32) → Option ((Nat → Int32))) (v2_2 : Int32) (m_ways_2 : Nat → Int32) : Option ((Nat → Int32)) := (if (16 : Int32) ≤ v2_2 then some m_ways_2 else (if v2_2 = v1 then gd v2_2 16 (lb (upd m_ways_2 v2_2.toNatClampNeg (1 : Int32)) (fun g23 => lb (v2_2 + (1 : Int32)) (fun t24 => (k2 t24 g23)))) else gd v2_2 16 (lb (upd m_ways_2 v2_2.toNatClampNeg (0 : Int32)) (fun g23 => lb (v2_2 + (1 : Int32)) (fun t24 => (k2 t24 g23))))))
def p10_beginWays_L2 (v1 : Int32) : Nat → Int32 → (Nat → Int32) → Option ((Nat → Int32))
  | 0, _, _ => none
  | n+1, v2_2, m_ways_2 => p10_beginWays_L2_B v1 (p10_beginWays_L2 v1 n) v2_2 m_ways_2
def p10_beginWays (m_ways : Nat → Int32) (v1 : Int32) : Option ((Nat → Int32)) := (ob (p10_beginWays_L2 v1 FU (0 : Int32) m_ways) (fun m_ways_x2 => p10_beginWays_J30 m_ways_x2))
set_option maxHeartbeats 4000000 in
set_option maxRecDepth 100000 in
theorem c_X10_beginWays (ad : Nat → Nat) (a_m_fam : Nat) (m_undoCount : Int32) (m_thrown : Int32) (m_hasSnapshot : Bool) (m_rows : Int32) (m_lineLength : Int32) (m_formattedLength : Int32) (m_bufferLength : Int32) (m_limit : Int32) (m_next : Int32) (m_beginsAt : Int32) (m_token : Int32) (m_error : Int32) (m_errorAt : Int32) (m_errorPosition : Int32) (m_nested : Int32) (m_codeCount : Int32) (m_ways : Nat → Int32) (v1 : Int32) (m_ways_9 : Nat → Int32) (hf : p10_beginWays m_ways v1 = some m_ways_9) : gM l dC dI cI cJ cZ yX10_beginWays cX10_beginWays 3 none (0) (0) [.ref (ad 0), .int v1] [(ad 0, .inr (10, oM ad m_undoCount m_thrown m_hasSnapshot a_m_fam m_rows m_lineLength m_formattedLength m_bufferLength m_limit m_next m_beginsAt m_token m_error m_errorAt m_errorPosition m_nested m_codeCount)), ((ad 20), .inl (cI, 16, .inl m_ways))] [(ad 0, .inr (10, oM ad m_undoCount m_thrown m_hasSnapshot a_m_fam m_rows m_lineLength m_formattedLength m_bufferLength m_limit m_next m_beginsAt m_token m_error m_errorAt m_errorPosition m_nested m_codeCount)), ((ad 20), .inl (cI, 16, .inl m_ways_9))] none := by
  refine g_start (own := RX10) (by decide +kernel) rfl (Nat.le_of_ble_eq_true rfl) ?_
  intro p e s m below meth c A ls S hr hlocks hE hP hD hS hA hl hin
  have hx := S.1
  have hb := S.2.1
  have hml := S.2.2.1
  have hown := S.2.2.2.1
  have htg : ∀ z ∈ gw, z.before ([.ref (ad 0), .int v1] : List Value).toArray s = true := fun w h => S.2.2.2.2 w (List.mem_cons_of_mem _ h)
  have hl : lv_has ls 3 [(0, .ref (ad 0)), (1, .int v1)] := hl
  have hS0 := hS
  obtain ⟨H, hH⟩ : ∃ H, H = s.heap := ⟨_, rfl⟩
  obtain ⟨locs, hlc⟩ : ∃ locs : List Loc, locs = [] := ⟨_, rfl⟩
  have hS : va_S A s.heap H locs := by rw [hH, hlc]; exact hS0
  have hP : va_P (dC, dI) vwCl [(ad 0, .inr (10, oM ad m_undoCount m_thrown m_hasSnapshot a_m_fam m_rows m_lineLength m_formattedLength m_bufferLength m_limit m_next m_beginsAt m_token m_error m_errorAt m_errorPosition m_nested m_codeCount)), ((ad 20), .inl (cI, 16, .inl m_ways))] H := by rw [hH]; exact hP
  suffices hgo : W p l e ({ frames := 0, cells := 0, slots := 0, locals := 0 }) s m ([.ref (ad 0), .int v1] : List Value).toArray below meth c H locs 0 0 (MQ below (gQ dC dI none A [(ad 0, .inr (10, oM ad m_undoCount m_thrown m_hasSnapshot a_m_fam m_rows m_lineLength m_formattedLength m_bufferLength m_limit m_next m_beginsAt m_token m_error m_errorAt m_errorPosition m_nested m_codeCount)), ((ad 20), .inl (cI, 16, .inl m_ways_9))]) ([.ref (ad 0), .int v1] : List Value).toArray s 0 0 A) (F0 m 0 ls []) by rw [hH, hlc] at hgo; exact hgo
  rw [p10_beginWays] at hf
  have J30 : ∀ (m_ways_30 : Nat → Int32) (H : Heap) (locs : List Loc) (ls : Array Slot), p10_beginWays_J30 m_ways_30 = some m_ways_9 → va_P (dC, dI) vwCl [(ad 0, .inr (10, oM ad m_undoCount m_thrown m_hasSnapshot a_m_fam m_rows m_lineLength m_formattedLength m_bufferLength m_limit m_next m_beginsAt m_token m_error m_errorAt m_errorPosition m_nested m_codeCount)), ((ad 20), .inl (cI, 16, .inl m_ways_30))] H → va_D A [(ad 0, .inr (10, oM ad m_undoCount m_thrown m_hasSnapshot a_m_fam m_rows m_lineLength m_formattedLength m_bufferLength m_limit m_next m_beginsAt m_token m_error m_errorAt m_errorPosition m_nested m_codeCount)), ((ad 20), .inl (cI, 16, .inl m_ways_30))] → va_S A s.heap H locs → lv_has ls 3 [] → W p l e ({ frames := 0, cells := 0, slots := 0, locals := 0 }) s m ([.ref (ad 0), .int v1] : List Value).toArray below meth c H locs 0 0 (MQ below (gQ dC dI none A [(ad 0, .inr (10, oM ad m_undoCount m_thrown m_hasSnapshot a_m_fam m_rows m_lineLength m_formattedLength m_bufferLength m_limit m_next m_beginsAt m_token m_error m_errorAt m_errorPosition m_nested m_codeCount)), ((ad 20), .inl (cI, 16, .inl m_ways_9))]) ([.ref (ad 0), .int v1] : List Value).toArray s 0 0 A) (F0 m 30 ls []) := by
    intro m_ways_30 H locs ls hf hP hD hS hl
    rw [p10_beginWays_J30] at hf
    cases hf
    exact g_vret S hr hlocks hP hD hS dX10_beginWays_30
  refine lv_iconst (v := 0) hx hb dX10_beginWays_0 (by decide) ?_
  refine lv_istore_n (lv' := [(2, .int (0 : Int32)), (0, .ref (ad 0)), (1, .int v1)]) hx hb dX10_beginWays_1 rfl hl (by decide) rfl (fun ls hl => ?_)
  have K2 : ∀ (n2 : Nat) (v2_2 : Int32) (m_ways_2 : Nat → Int32) (ex2 : (Nat → Int32)) (H : Heap) (locs : List Loc) (ls : Array Slot), p10_beginWays_L2 v1 n2 v2_2 m_ways_2 = some ex2 → (fun m_ways_x2 => p10_beginWays_J30 m_ways_x2) ex2 = some m_ways_9 → va_P (dC, dI) vwCl [(ad 0, .inr (10, oM ad m_undoCount m_thrown m_hasSnapshot a_m_fam m_rows m_lineLength m_formattedLength m_bufferLength m_limit m_next m_beginsAt m_token m_error m_errorAt m_errorPosition m_nested m_codeCount)), ((ad 20), .inl (cI, 16, .inl m_ways_2))] H → va_D A [(ad 0, .inr (10, oM ad m_undoCount m_thrown m_hasSnapshot a_m_fam m_rows m_lineLength m_formattedLength m_bufferLength m_limit m_next m_beginsAt m_token m_error m_errorAt m_errorPosition m_nested m_codeCount)), ((ad 20), .inl (cI, 16, .inl m_ways_2))] → va_S A s.heap H locs → lv_has ls 3 [(0, .ref (ad 0)), (1, .int v1), (2, .int v2_2)] → W p l e ({ frames := 0, cells := 0, slots := 0, locals := 0 }) s m ([.ref (ad 0), .int v1] : List Value).toArray below meth c H locs 0 0 (MQ below (gQ dC dI none A [(ad 0, .inr (10, oM ad m_undoCount m_thrown m_hasSnapshot a_m_fam m_rows m_lineLength m_formattedLength m_bufferLength m_limit m_next m_beginsAt m_token m_error m_errorAt m_errorPosition m_nested m_codeCount)), ((ad 20), .inl (cI, 16, .inl m_ways_9))]) ([.ref (ad 0), .int v1] : List Value).toArray s 0 0 A) (F0 m 2 ls []) := by
    intro n2
    induction n2 with
    | zero => intro v2_2 m_ways_2 ex2 H locs ls hf; rw [p10_beginWays_L2] at hf; cases hf
    | succ n2 ih2 =>
      intro v2_2 m_ways_2 ex2 H locs ls hf hk2 hP hD hS hl
      rw [p10_beginWays_L2, p10_beginWays_L2_B] at hf
      refine lv_iload_n hx hb dX10_beginWays_2 rfl (lv_at hl 2 rfl) ?_
      refine lv_bipush (v := 16) hx hb dX10_beginWays_3 (by decide) ?_
      refine lv_icmp_ge (tgt := 30) hx hb dX10_beginWays_5 (by decide) (fun h9 => ?_) (fun h9 => ?_)
      · have hf := itt h9 hf
        cases hf
        have hf := hk2
        exact J30 m_ways_2 H locs ls hf hP hD hS (lv_sub hl [] rfl)
      · have hf := itf h9 hf
        refine lv_aload_n hx hb dX10_beginWays_8 rfl (lv_at hl 0 rfl) ?_
        refine va_get (D := (dC, dI)) (ci := 10) (v := .ref (ad 20)) (C := RX10) (T := TX10) (N := 37) hx hb htg inX10 hown hE.1 hP 0 rfl rfl 19 (by decide) (htg _ tw1401) (fun _ h9 => h9) rfl dX10_beginWays_9 ?_
        refine lv_iload_n hx hb dX10_beginWays_12 rfl (lv_at hl 2 rfl) ?_
        refine lv_iload_n hx hb dX10_beginWays_13 rfl (lv_at hl 2 rfl) ?_
        refine lv_iload_n hx hb dX10_beginWays_14 rfl (lv_at hl 1 rfl) ?_
        refine lv_icmp_ne (tgt := 22) hx hb dX10_beginWays_15 (by decide) (fun h9 => ?_) (fun h9 => ?_)
        · have hf := itf h9 hf
          refine lv_iconst (v := 0) hx hb dX10_beginWays_22 (by decide) ?_
          obtain ⟨h9, hf⟩ := gd_s hf
          refine va_iast hx hb hE.1 hP hD hS 1 0 rfl rfl h9 dX10_beginWays_23 (fun H locs hP hD hS => ?_)
          obtain ⟨g23, h9⟩ : ∃ z, z = (upd m_ways_2 v2_2.toNatClampNeg (0 : Int32)) := ⟨_, rfl⟩
          have hf := lb_e h9 hf
          have hP : va_P (dC, dI) vwCl [(ad 0, .inr (10, oM ad m_undoCount m_thrown m_hasSnapshot a_m_fam m_rows m_lineLength m_formattedLength m_bufferLength m_limit m_next m_beginsAt m_token m_error m_errorAt m_errorPosition m_nested m_codeCount)), ((ad 20), .inl (cI, 16, .inl g23))] H := by rw [h9]; exact hP
          have hD : va_D A [(ad 0, .inr (10, oM ad m_undoCount m_thrown m_hasSnapshot a_m_fam m_rows m_lineLength m_formattedLength m_bufferLength m_limit m_next m_beginsAt m_token m_error m_errorAt m_errorPosition m_nested m_codeCount)), ((ad 20), .inl (cI, 16, .inl g23))] := by rw [h9]; exact hD
          obtain ⟨t24, h9⟩ : ∃ z : Int32, z = (v2_2 + (1 : Int32)) := ⟨_, rfl⟩
          have hf := lb_e h9 hf
          refine lv_iinc (v := t24) (lv' := [(2, .int t24), (0, .ref (ad 0)), (1, .int v1)]) hx hb dX10_beginWays_24 hl (k := 2) rfl (by rw [h9]; rfl) (by decide) rfl (fun ls hl => ?_)
          refine lv_goto (tgt := 2) hx hb dX10_beginWays_27 (by decide) ?_
          exact ih2 t24 g23 ex2 H locs ls hf hk2 hP hD hS (lv_sub hl [1, 2, 0] rfl)
        · have hf := itt h9 hf
          refine lv_iconst (v := 1) hx hb dX10_beginWays_18 (by decide) ?_
          refine lv_goto (tgt := 23) hx hb dX10_beginWays_19 (by decide) ?_
          obtain ⟨h9, hf⟩ := gd_s hf
          refine va_iast hx hb hE.1 hP hD hS 1 0 rfl rfl h9 dX10_beginWays_23 (fun H locs hP hD hS => ?_)
          obtain ⟨g23, h9⟩ : ∃ z, z = (upd m_ways_2 v2_2.toNatClampNeg (1 : Int32)) := ⟨_, rfl⟩
          have hf := lb_e h9 hf
          have hP : va_P (dC, dI) vwCl [(ad 0, .inr (10, oM ad m_undoCount m_thrown m_hasSnapshot a_m_fam m_rows m_lineLength m_formattedLength m_bufferLength m_limit m_next m_beginsAt m_token m_error m_errorAt m_errorPosition m_nested m_codeCount)), ((ad 20), .inl (cI, 16, .inl g23))] H := by rw [h9]; exact hP
          have hD : va_D A [(ad 0, .inr (10, oM ad m_undoCount m_thrown m_hasSnapshot a_m_fam m_rows m_lineLength m_formattedLength m_bufferLength m_limit m_next m_beginsAt m_token m_error m_errorAt m_errorPosition m_nested m_codeCount)), ((ad 20), .inl (cI, 16, .inl g23))] := by rw [h9]; exact hD
          obtain ⟨t24, h9⟩ : ∃ z : Int32, z = (v2_2 + (1 : Int32)) := ⟨_, rfl⟩
          have hf := lb_e h9 hf
          refine lv_iinc (v := t24) (lv' := [(2, .int t24), (0, .ref (ad 0)), (1, .int v1)]) hx hb dX10_beginWays_24 hl (k := 2) rfl (by rw [h9]; rfl) (by decide) rfl (fun ls hl => ?_)
          refine lv_goto (tgt := 2) hx hb dX10_beginWays_27 (by decide) ?_
          exact ih2 t24 g23 ex2 H locs ls hf hk2 hP hD hS (lv_sub hl [1, 2, 0] rfl)
  obtain ⟨ex, h9, hf⟩ := ob_s hf
  exact K2 FU (0 : Int32) m_ways ex H locs ls h9 hf hP hD hS (lv_sub hl [1, 2, 0] rfl)
def p10_stepUp_J114 (m_further_114 : Nat → Int32) (m_ways_114 : Nat → Int32) : Option ((Nat → Int32) × (Nat → Int32)) := some (m_further_114, m_ways_114)
def p10_stepUp_L90_B (m_further_88 : Nat → Int32) (k90 : Int32 → (Nat → Int32) → Option ((Nat → Int32))) (v1_90 : Int32) (m_ways_90 : Nat → Int32) : Option ((Nat → Int32)) := (if (16 : Int32) ≤ v1_90 then some m_ways_90 else gd v1_90 16 (gd v1_90 16 (lb (upd m_ways_90 v1_90.toNatClampNeg (m_further_88 v1_90.toNatClampNeg)) (fun g107 => lb (v1_90 + (1 : Int32)) (fun t108 => (k90 t108 g107))))))
def p10_stepUp_L90 (m_further_88 : Nat → Int32) : Nat → Int32 → (Nat → Int32) → Option ((Nat → Int32))
  | 0, _, _ => none
  | n+1, v1_90, m_ways_90 => p10_stepUp_L90_B m_further_88 (p10_stepUp_L90 m_further_88 n) v1_90 m_ways_90
def p10_stepUp_J88 (m_ways : Nat → Int32) (m_further_88 : Nat → Int32) : Option ((Nat → Int32) × (Nat → Int32)) := (ob (p10_stepUp_L90 m_further_88 FU (0 : Int32) m_ways) (fun m_ways_x90 => p10_stepUp_J114 m_further_88 m_ways_x90))
def p10_stepUp_L23_B (m_fam : Nat → Int64) (m_ways : Nat → Int32) (k23 : Int32 → (Nat → Int32) → Option ((Nat → Int32))) (v1_23 : Int32) (m_further_23 : Nat → Int32) : Option ((Nat → Int32)) := ob (p10_persons m_fam) (fun r25 => (if r25 ≤ v1_23 then some m_further_23 else ob (p10_parentsOf m_fam v1_23) (fun r33 => (if r33 = (-1 : Int32) then lb (v1_23 + (1 : Int32)) (fun t82 => (k23 t82 m_further_23)) else ob (p10_partner m_fam r33 (0 : Int32)) (fun r49 => gd r49 16 (gd v1_23 16 (gd r49 16 (lb (upd m_further_23 r49.toNatClampNeg ((m_further_23 r49.toNatClampNeg) + (m_ways v1_23.toNatClampNeg))) (fun g61 => ob (p10_partner m_fam r33 (1 : Int32)) (fun r69 => gd r69 16 (gd v1_23 16 (gd r69 16 (lb (upd g61 r69.toNatClampNeg ((g61 r69.toNatClampNeg) + (m_ways v1_23.toNatClampNeg))) (fun g81 => lb (v1_23 + (1 : Int32)) (fun t82 => (k23 t82 g81))))))))))))))))
def p10_stepUp_L23 (m_fam : Nat → Int64) (m_ways : Nat → Int32) : Nat → Int32 → (Nat → Int32) → Option ((Nat → Int32))
  | 0, _, _ => none
  | n+1, v1_23, m_further_23 => p10_stepUp_L23_B m_fam m_ways (p10_stepUp_L23 m_fam m_ways n) v1_23 m_further_23
def p10_stepUp_J21 (m_fam : Nat → Int64) (m_ways : Nat → Int32) (m_further_21 : Nat → Int32) : Option ((Nat → Int32) × (Nat → Int32)) := (ob (p10_stepUp_L23 m_fam m_ways FU (0 : Int32) m_further_21) (fun m_further_x23 => p10_stepUp_J88 m_ways m_further_x23))
def p10_stepUp_L2_B  (k2 : Int32 → (Nat → Int32) → Option ((Nat → Int32))) (v1_2 : Int32) (m_further_2 : Nat → Int32) : Option ((Nat → Int32)) := (if (16 : Int32) ≤ v1_2 then some m_further_2 else gd v1_2 16 (lb (upd m_further_2 v1_2.toNatClampNeg (0 : Int32)) (fun g14 => lb (v1_2 + (1 : Int32)) (fun t15 => (k2 t15 g14)))))
def p10_stepUp_L2  : Nat → Int32 → (Nat → Int32) → Option ((Nat → Int32))
  | 0, _, _ => none
  | n+1, v1_2, m_further_2 => p10_stepUp_L2_B  (p10_stepUp_L2  n) v1_2 m_further_2
def p10_stepUp (m_fam : Nat → Int64) (m_further : Nat → Int32) (m_ways : Nat → Int32) : Option ((Nat → Int32) × (Nat → Int32)) := (ob (p10_stepUp_L2 FU (0 : Int32) m_further) (fun m_further_x2 => p10_stepUp_J21 m_fam m_ways m_further_x2))
set_option maxHeartbeats 4000000 in
set_option maxRecDepth 100000 in
theorem c_X10_stepUp (ad : Nat → Nat) (a_m_fam : Nat) (m_undoCount : Int32) (m_thrown : Int32) (m_hasSnapshot : Bool) (m_rows : Int32) (m_lineLength : Int32) (m_formattedLength : Int32) (m_bufferLength : Int32) (m_limit : Int32) (m_next : Int32) (m_beginsAt : Int32) (m_token : Int32) (m_error : Int32) (m_errorAt : Int32) (m_errorPosition : Int32) (m_nested : Int32) (m_codeCount : Int32) (m_fam : Nat → Int64) (m_further : Nat → Int32) (m_ways : Nat → Int32) (m_further_9 : Nat → Int32) (m_ways_9 : Nat → Int32) (hf : p10_stepUp m_fam m_further m_ways = some (m_further_9, m_ways_9)) : gM l dC dI cI cJ cZ yX10_stepUp cX10_stepUp 3 none (2) (43) [.ref (ad 0)] [(ad 0, .inr (10, oM ad m_undoCount m_thrown m_hasSnapshot a_m_fam m_rows m_lineLength m_formattedLength m_bufferLength m_limit m_next m_beginsAt m_token m_error m_errorAt m_errorPosition m_nested m_codeCount)), (a_m_fam, .inl (cJ, 130, .inr (.inl m_fam))), ((ad 21), .inl (cI, 16, .inl m_further)), ((ad 20), .inl (cI, 16, .inl m_ways))] [(ad 0, .inr (10, oM ad m_undoCount m_thrown m_hasSnapshot a_m_fam m_rows m_lineLength m_formattedLength m_bufferLength m_limit m_next m_beginsAt m_token m_error m_errorAt m_errorPosition m_nested m_codeCount)), (a_m_fam, .inl (cJ, 130, .inr (.inl m_fam))), ((ad 21), .inl (cI, 16, .inl m_further_9)), ((ad 20), .inl (cI, 16, .inl m_ways_9))] none := by
  refine g_start (own := RX10) (by decide +kernel) rfl (Nat.le_of_ble_eq_true rfl) ?_
  intro p e s m below meth c A ls S hr hlocks hE hP hD hS hA hl hin
  have hx := S.1
  have hb := S.2.1
  have hml := S.2.2.1
  have hown := S.2.2.2.1
  have htg : ∀ z ∈ gw, z.before ([.ref (ad 0)] : List Value).toArray s = true := fun w h => S.2.2.2.2 w (List.mem_cons_of_mem _ h)
  have hl : lv_has ls 3 [(0, .ref (ad 0))] := hl
  have hS0 := hS
  obtain ⟨H, hH⟩ : ∃ H, H = s.heap := ⟨_, rfl⟩
  obtain ⟨locs, hlc⟩ : ∃ locs : List Loc, locs = [] := ⟨_, rfl⟩
  have hS : va_S A s.heap H locs := by rw [hH, hlc]; exact hS0
  have hP : va_P (dC, dI) vwCl [(ad 0, .inr (10, oM ad m_undoCount m_thrown m_hasSnapshot a_m_fam m_rows m_lineLength m_formattedLength m_bufferLength m_limit m_next m_beginsAt m_token m_error m_errorAt m_errorPosition m_nested m_codeCount)), (a_m_fam, .inl (cJ, 130, .inr (.inl m_fam))), ((ad 21), .inl (cI, 16, .inl m_further)), ((ad 20), .inl (cI, 16, .inl m_ways))] H := by rw [hH]; exact hP
  suffices hgo : W p l e ({ frames := 2, cells := 0, slots := 0, locals := 43 }) s m ([.ref (ad 0)] : List Value).toArray below meth c H locs 0 0 (MQ below (gQ dC dI none A [(ad 0, .inr (10, oM ad m_undoCount m_thrown m_hasSnapshot a_m_fam m_rows m_lineLength m_formattedLength m_bufferLength m_limit m_next m_beginsAt m_token m_error m_errorAt m_errorPosition m_nested m_codeCount)), (a_m_fam, .inl (cJ, 130, .inr (.inl m_fam))), ((ad 21), .inl (cI, 16, .inl m_further_9)), ((ad 20), .inl (cI, 16, .inl m_ways_9))]) ([.ref (ad 0)] : List Value).toArray s 0 0 A) (F0 m 0 ls []) by rw [hH, hlc] at hgo; exact hgo
  rw [p10_stepUp] at hf
  have J114 : ∀ (m_further_114 : Nat → Int32) (m_ways_114 : Nat → Int32) (H : Heap) (locs : List Loc) (ls : Array Slot), p10_stepUp_J114 m_further_114 m_ways_114 = some (m_further_9, m_ways_9) → va_P (dC, dI) vwCl [(ad 0, .inr (10, oM ad m_undoCount m_thrown m_hasSnapshot a_m_fam m_rows m_lineLength m_formattedLength m_bufferLength m_limit m_next m_beginsAt m_token m_error m_errorAt m_errorPosition m_nested m_codeCount)), (a_m_fam, .inl (cJ, 130, .inr (.inl m_fam))), ((ad 21), .inl (cI, 16, .inl m_further_114)), ((ad 20), .inl (cI, 16, .inl m_ways_114))] H → va_D A [(ad 0, .inr (10, oM ad m_undoCount m_thrown m_hasSnapshot a_m_fam m_rows m_lineLength m_formattedLength m_bufferLength m_limit m_next m_beginsAt m_token m_error m_errorAt m_errorPosition m_nested m_codeCount)), (a_m_fam, .inl (cJ, 130, .inr (.inl m_fam))), ((ad 21), .inl (cI, 16, .inl m_further_114)), ((ad 20), .inl (cI, 16, .inl m_ways_114))] → va_S A s.heap H locs → lv_has ls 3 [] → W p l e ({ frames := 2, cells := 0, slots := 0, locals := 43 }) s m ([.ref (ad 0)] : List Value).toArray below meth c H locs 0 0 (MQ below (gQ dC dI none A [(ad 0, .inr (10, oM ad m_undoCount m_thrown m_hasSnapshot a_m_fam m_rows m_lineLength m_formattedLength m_bufferLength m_limit m_next m_beginsAt m_token m_error m_errorAt m_errorPosition m_nested m_codeCount)), (a_m_fam, .inl (cJ, 130, .inr (.inl m_fam))), ((ad 21), .inl (cI, 16, .inl m_further_9)), ((ad 20), .inl (cI, 16, .inl m_ways_9))]) ([.ref (ad 0)] : List Value).toArray s 0 0 A) (F0 m 114 ls []) := by
    intro m_further_114 m_ways_114 H locs ls hf hP hD hS hl
    rw [p10_stepUp_J114] at hf
    cases hf
    exact g_vret S hr hlocks hP hD hS dX10_stepUp_114
  have J88 : ∀ (m_further_88 : Nat → Int32) (H : Heap) (locs : List Loc) (ls : Array Slot), p10_stepUp_J88 m_ways m_further_88 = some (m_further_9, m_ways_9) → va_P (dC, dI) vwCl [(ad 0, .inr (10, oM ad m_undoCount m_thrown m_hasSnapshot a_m_fam m_rows m_lineLength m_formattedLength m_bufferLength m_limit m_next m_beginsAt m_token m_error m_errorAt m_errorPosition m_nested m_codeCount)), (a_m_fam, .inl (cJ, 130, .inr (.inl m_fam))), ((ad 21), .inl (cI, 16, .inl m_further_88)), ((ad 20), .inl (cI, 16, .inl m_ways))] H → va_D A [(ad 0, .inr (10, oM ad m_undoCount m_thrown m_hasSnapshot a_m_fam m_rows m_lineLength m_formattedLength m_bufferLength m_limit m_next m_beginsAt m_token m_error m_errorAt m_errorPosition m_nested m_codeCount)), (a_m_fam, .inl (cJ, 130, .inr (.inl m_fam))), ((ad 21), .inl (cI, 16, .inl m_further_88)), ((ad 20), .inl (cI, 16, .inl m_ways))] → va_S A s.heap H locs → lv_has ls 3 [(0, .ref (ad 0))] → W p l e ({ frames := 2, cells := 0, slots := 0, locals := 43 }) s m ([.ref (ad 0)] : List Value).toArray below meth c H locs 0 0 (MQ below (gQ dC dI none A [(ad 0, .inr (10, oM ad m_undoCount m_thrown m_hasSnapshot a_m_fam m_rows m_lineLength m_formattedLength m_bufferLength m_limit m_next m_beginsAt m_token m_error m_errorAt m_errorPosition m_nested m_codeCount)), (a_m_fam, .inl (cJ, 130, .inr (.inl m_fam))), ((ad 21), .inl (cI, 16, .inl m_further_9)), ((ad 20), .inl (cI, 16, .inl m_ways_9))]) ([.ref (ad 0)] : List Value).toArray s 0 0 A) (F0 m 88 ls []) := by
    intro m_further_88 H locs ls hf hP hD hS hl
    rw [p10_stepUp_J88] at hf
    refine lv_iconst (v := 0) hx hb dX10_stepUp_88 (by decide) ?_
    refine lv_istore_n (lv' := [(1, .int (0 : Int32)), (0, .ref (ad 0))]) hx hb dX10_stepUp_89 rfl hl (by decide) rfl (fun ls hl => ?_)
    have K90 : ∀ (n90 : Nat) (v1_90 : Int32) (m_ways_90 : Nat → Int32) (ex90 : (Nat → Int32)) (H : Heap) (locs : List Loc) (ls : Array Slot), p10_stepUp_L90 m_further_88 n90 v1_90 m_ways_90 = some ex90 → (fun m_ways_x90 => p10_stepUp_J114 m_further_88 m_ways_x90) ex90 = some (m_further_9, m_ways_9) → va_P (dC, dI) vwCl [(ad 0, .inr (10, oM ad m_undoCount m_thrown m_hasSnapshot a_m_fam m_rows m_lineLength m_formattedLength m_bufferLength m_limit m_next m_beginsAt m_token m_error m_errorAt m_errorPosition m_nested m_codeCount)), (a_m_fam, .inl (cJ, 130, .inr (.inl m_fam))), ((ad 21), .inl (cI, 16, .inl m_further_88)), ((ad 20), .inl (cI, 16, .inl m_ways_90))] H → va_D A [(ad 0, .inr (10, oM ad m_undoCount m_thrown m_hasSnapshot a_m_fam m_rows m_lineLength m_formattedLength m_bufferLength m_limit m_next m_beginsAt m_token m_error m_errorAt m_errorPosition m_nested m_codeCount)), (a_m_fam, .inl (cJ, 130, .inr (.inl m_fam))), ((ad 21), .inl (cI, 16, .inl m_further_88)), ((ad 20), .inl (cI, 16, .inl m_ways_90))] → va_S A s.heap H locs → lv_has ls 3 [(0, .ref (ad 0)), (1, .int v1_90)] → W p l e ({ frames := 2, cells := 0, slots := 0, locals := 43 }) s m ([.ref (ad 0)] : List Value).toArray below meth c H locs 0 0 (MQ below (gQ dC dI none A [(ad 0, .inr (10, oM ad m_undoCount m_thrown m_hasSnapshot a_m_fam m_rows m_lineLength m_formattedLength m_bufferLength m_limit m_next m_beginsAt m_token m_error m_errorAt m_errorPosition m_nested m_codeCount)), (a_m_fam, .inl (cJ, 130, .inr (.inl m_fam))), ((ad 21), .inl (cI, 16, .inl m_further_9)), ((ad 20), .inl (cI, 16, .inl m_ways_9))]) ([.ref (ad 0)] : List Value).toArray s 0 0 A) (F0 m 90 ls []) := by
      intro n90
      induction n90 with
      | zero => intro v1_90 m_ways_90 ex90 H locs ls hf; rw [p10_stepUp_L90] at hf; cases hf
      | succ n90 ih90 =>
        intro v1_90 m_ways_90 ex90 H locs ls hf hk90 hP hD hS hl
        rw [p10_stepUp_L90, p10_stepUp_L90_B] at hf
        refine lv_iload_n hx hb dX10_stepUp_90 rfl (lv_at hl 1 rfl) ?_
        refine lv_bipush (v := 16) hx hb dX10_stepUp_91 (by decide) ?_
        refine lv_icmp_ge (tgt := 114) hx hb dX10_stepUp_93 (by decide) (fun h9 => ?_) (fun h9 => ?_)
        · have hf := itt h9 hf
          cases hf
          have hf := hk90
          exact J114 m_further_88 m_ways_90 H locs ls hf hP hD hS (lv_sub hl [] rfl)
        · have hf := itf h9 hf
          refine lv_aload_n hx hb dX10_stepUp_96 rfl (lv_at hl 0 rfl) ?_
          refine va_get (D := (dC, dI)) (ci := 10) (v := .ref (ad 20)) (C := RX10) (T := TX10) (N := 37) hx hb htg inX10 hown hE.1 hP 0 rfl rfl 19 (by decide) (htg _ tw1401) (fun _ h9 => h9) rfl dX10_stepUp_97 ?_
          refine lv_iload_n hx hb dX10_stepUp_100 rfl (lv_at hl 1 rfl) ?_
          refine lv_aload_n hx hb dX10_stepUp_101 rfl (lv_at hl 0 rfl) ?_
          refine va_get (D := (dC, dI)) (ci := 10) (v := .ref (ad 21)) (C := RX10) (T := TX10) (N := 37) hx hb htg inX10 hown hE.1 hP 0 rfl rfl 20 (by decide) (htg _ tw1402) (fun _ h9 => h9) rfl dX10_stepUp_102 ?_
          refine lv_iload_n hx hb dX10_stepUp_105 rfl (lv_at hl 1 rfl) ?_
          obtain ⟨h9, hf⟩ := gd_s hf
          refine va_iald hx hb hE.1 hP 2 0 rfl rfl h9 dX10_stepUp_106 ?_
          obtain ⟨h9, hf⟩ := gd_s hf
          refine va_iast hx hb hE.1 hP hD hS 3 0 rfl rfl h9 dX10_stepUp_107 (fun H locs hP hD hS => ?_)
          obtain ⟨g107, h9⟩ : ∃ z, z = (upd m_ways_90 v1_90.toNatClampNeg (m_further_88 v1_90.toNatClampNeg)) := ⟨_, rfl⟩
          have hf := lb_e h9 hf
          have hP : va_P (dC, dI) vwCl [(ad 0, .inr (10, oM ad m_undoCount m_thrown m_hasSnapshot a_m_fam m_rows m_lineLength m_formattedLength m_bufferLength m_limit m_next m_beginsAt m_token m_error m_errorAt m_errorPosition m_nested m_codeCount)), (a_m_fam, .inl (cJ, 130, .inr (.inl m_fam))), ((ad 21), .inl (cI, 16, .inl m_further_88)), ((ad 20), .inl (cI, 16, .inl g107))] H := by rw [h9]; exact hP
          have hD : va_D A [(ad 0, .inr (10, oM ad m_undoCount m_thrown m_hasSnapshot a_m_fam m_rows m_lineLength m_formattedLength m_bufferLength m_limit m_next m_beginsAt m_token m_error m_errorAt m_errorPosition m_nested m_codeCount)), (a_m_fam, .inl (cJ, 130, .inr (.inl m_fam))), ((ad 21), .inl (cI, 16, .inl m_further_88)), ((ad 20), .inl (cI, 16, .inl g107))] := by rw [h9]; exact hD
          obtain ⟨t108, h9⟩ : ∃ z : Int32, z = (v1_90 + (1 : Int32)) := ⟨_, rfl⟩
          have hf := lb_e h9 hf
          refine lv_iinc (v := t108) (lv' := [(1, .int t108), (0, .ref (ad 0))]) hx hb dX10_stepUp_108 hl (k := 1) rfl (by rw [h9]; rfl) (by decide) rfl (fun ls hl => ?_)
          refine lv_goto (tgt := 90) hx hb dX10_stepUp_111 (by decide) ?_
          exact ih90 t108 g107 ex90 H locs ls hf hk90 hP hD hS (lv_sub hl [1, 0] rfl)
    obtain ⟨ex, h9, hf⟩ := ob_s hf
    exact K90 FU (0 : Int32) m_ways ex H locs ls h9 hf hP hD hS (lv_sub hl [1, 0] rfl)
  have J21 : ∀ (m_further_21 : Nat → Int32) (H : Heap) (locs : List Loc) (ls : Array Slot), p10_stepUp_J21 m_fam m_ways m_further_21 = some (m_further_9, m_ways_9) → va_P (dC, dI) vwCl [(ad 0, .inr (10, oM ad m_undoCount m_thrown m_hasSnapshot a_m_fam m_rows m_lineLength m_formattedLength m_bufferLength m_limit m_next m_beginsAt m_token m_error m_errorAt m_errorPosition m_nested m_codeCount)), (a_m_fam, .inl (cJ, 130, .inr (.inl m_fam))), ((ad 21), .inl (cI, 16, .inl m_further_21)), ((ad 20), .inl (cI, 16, .inl m_ways))] H → va_D A [(ad 0, .inr (10, oM ad m_undoCount m_thrown m_hasSnapshot a_m_fam m_rows m_lineLength m_formattedLength m_bufferLength m_limit m_next m_beginsAt m_token m_error m_errorAt m_errorPosition m_nested m_codeCount)), (a_m_fam, .inl (cJ, 130, .inr (.inl m_fam))), ((ad 21), .inl (cI, 16, .inl m_further_21)), ((ad 20), .inl (cI, 16, .inl m_ways))] → va_S A s.heap H locs → lv_has ls 3 [(0, .ref (ad 0))] → W p l e ({ frames := 2, cells := 0, slots := 0, locals := 43 }) s m ([.ref (ad 0)] : List Value).toArray below meth c H locs 0 0 (MQ below (gQ dC dI none A [(ad 0, .inr (10, oM ad m_undoCount m_thrown m_hasSnapshot a_m_fam m_rows m_lineLength m_formattedLength m_bufferLength m_limit m_next m_beginsAt m_token m_error m_errorAt m_errorPosition m_nested m_codeCount)), (a_m_fam, .inl (cJ, 130, .inr (.inl m_fam))), ((ad 21), .inl (cI, 16, .inl m_further_9)), ((ad 20), .inl (cI, 16, .inl m_ways_9))]) ([.ref (ad 0)] : List Value).toArray s 0 0 A) (F0 m 21 ls []) := by
    intro m_further_21 H locs ls hf hP hD hS hl
    rw [p10_stepUp_J21] at hf
    refine lv_iconst (v := 0) hx hb dX10_stepUp_21 (by decide) ?_
    refine lv_istore_n (lv' := [(1, .int (0 : Int32)), (0, .ref (ad 0))]) hx hb dX10_stepUp_22 rfl hl (by decide) rfl (fun ls hl => ?_)
    have K23 : ∀ (n23 : Nat) (v1_23 : Int32) (m_further_23 : Nat → Int32) (ex23 : (Nat → Int32)) (H : Heap) (locs : List Loc) (ls : Array Slot), p10_stepUp_L23 m_fam m_ways n23 v1_23 m_further_23 = some ex23 → (fun m_further_x23 => p10_stepUp_J88 m_ways m_further_x23) ex23 = some (m_further_9, m_ways_9) → va_P (dC, dI) vwCl [(ad 0, .inr (10, oM ad m_undoCount m_thrown m_hasSnapshot a_m_fam m_rows m_lineLength m_formattedLength m_bufferLength m_limit m_next m_beginsAt m_token m_error m_errorAt m_errorPosition m_nested m_codeCount)), (a_m_fam, .inl (cJ, 130, .inr (.inl m_fam))), ((ad 21), .inl (cI, 16, .inl m_further_23)), ((ad 20), .inl (cI, 16, .inl m_ways))] H → va_D A [(ad 0, .inr (10, oM ad m_undoCount m_thrown m_hasSnapshot a_m_fam m_rows m_lineLength m_formattedLength m_bufferLength m_limit m_next m_beginsAt m_token m_error m_errorAt m_errorPosition m_nested m_codeCount)), (a_m_fam, .inl (cJ, 130, .inr (.inl m_fam))), ((ad 21), .inl (cI, 16, .inl m_further_23)), ((ad 20), .inl (cI, 16, .inl m_ways))] → va_S A s.heap H locs → lv_has ls 3 [(0, .ref (ad 0)), (1, .int v1_23)] → W p l e ({ frames := 2, cells := 0, slots := 0, locals := 43 }) s m ([.ref (ad 0)] : List Value).toArray below meth c H locs 0 0 (MQ below (gQ dC dI none A [(ad 0, .inr (10, oM ad m_undoCount m_thrown m_hasSnapshot a_m_fam m_rows m_lineLength m_formattedLength m_bufferLength m_limit m_next m_beginsAt m_token m_error m_errorAt m_errorPosition m_nested m_codeCount)), (a_m_fam, .inl (cJ, 130, .inr (.inl m_fam))), ((ad 21), .inl (cI, 16, .inl m_further_9)), ((ad 20), .inl (cI, 16, .inl m_ways_9))]) ([.ref (ad 0)] : List Value).toArray s 0 0 A) (F0 m 23 ls []) := by
      intro n23
      induction n23 with
      | zero => intro v1_23 m_further_23 ex23 H locs ls hf; rw [p10_stepUp_L23] at hf; cases hf
      | succ n23 ih23 =>
        intro v1_23 m_further_23 ex23 H locs ls hf hk23 hP hD hS hl
        rw [p10_stepUp_L23, p10_stepUp_L23_B] at hf
        refine lv_iload_n hx hb dX10_stepUp_23 rfl (lv_at hl 1 rfl) ?_
        refine lv_aload_n hx hb dX10_stepUp_24 rfl (lv_at hl 0 rfl) ?_
        obtain ⟨r25, h9, hf⟩ := ob_s hf
        refine gcV (index := 121) S hE (c_X10_persons ad a_m_fam m_undoCount m_thrown m_hasSnapshot m_rows m_lineLength m_formattedLength m_bufferLength m_limit m_next m_beginsAt m_token m_error m_errorAt m_errorPosition m_nested m_codeCount m_fam r25 h9) mX10_persons tw1511 ⟨Nat.le_of_ble_eq_true rfl, Nat.le_of_ble_eq_true rfl⟩ hP hD hS hA ⟨Nat.zero_le _, Nat.zero_le _⟩ 0 10 rfl rfl rfl (wr := [((ad 21), .inl (cI, 16, .inl m_further_23)), ((ad 20), .inl (cI, 16, .inl m_ways))]) [0, 1] [2, 3] rfl rfl rfl rfl (by decide) (As := []) (rest := [.int v1_23]) rfl hl.1 rfl (Nat.le_of_ble_eq_true rfl) dX10_stepUp_25 (fun H locs hP hD hS => ?_)
        refine W.eq (g2 := F0 m 28 ls [.int r25, .int v1_23]) rfl ?_
        have hP : va_P (dC, dI) vwCl [((ad 21), .inl (cI, 16, .inl m_further_23)), ((ad 20), .inl (cI, 16, .inl m_ways)), (ad 0, .inr (10, oM ad m_undoCount m_thrown m_hasSnapshot a_m_fam m_rows m_lineLength m_formattedLength m_bufferLength m_limit m_next m_beginsAt m_token m_error m_errorAt m_errorPosition m_nested m_codeCount)), (a_m_fam, .inl (cJ, 130, .inr (.inl m_fam)))] H := hP
        have hD : va_D A [((ad 21), .inl (cI, 16, .inl m_further_23)), ((ad 20), .inl (cI, 16, .inl m_ways)), (ad 0, .inr (10, oM ad m_undoCount m_thrown m_hasSnapshot a_m_fam m_rows m_lineLength m_formattedLength m_bufferLength m_limit m_next m_beginsAt m_token m_error m_errorAt m_errorPosition m_nested m_codeCount)), (a_m_fam, .inl (cJ, 130, .inr (.inl m_fam)))] := hD
        refine lv_icmp_ge (tgt := 88) hx hb dX10_stepUp_28 (by decide) (fun h9 => ?_) (fun h9 => ?_)
        · have hf := itt h9 hf
          cases hf
          have hf := hk23
          exact J88 m_further_23 H locs ls hf (hP.sub [2, 3, 0, 1] rfl) (hD.sub [2, 3, 0, 1] (by decide) rfl) hS (lv_sub hl [0] rfl)
        · have hf := itf h9 hf
          refine lv_aload_n hx hb dX10_stepUp_31 rfl (lv_at hl 0 rfl) ?_
          refine lv_iload_n hx hb dX10_stepUp_32 rfl (lv_at hl 1 rfl) ?_
          obtain ⟨r33, h9, hf⟩ := ob_s hf
          refine gcV (index := 117) S hE (c_X10_parentsOf ad a_m_fam m_undoCount m_thrown m_hasSnapshot m_rows m_lineLength m_formattedLength m_bufferLength m_limit m_next m_beginsAt m_token m_error m_errorAt m_errorPosition m_nested m_codeCount m_fam v1_23 r33 h9) mX10_parentsOf tw1515 ⟨Nat.le_of_ble_eq_true rfl, Nat.le_of_ble_eq_true rfl⟩ hP hD hS hA ⟨Nat.zero_le _, Nat.zero_le _⟩ 2 10 rfl rfl rfl (wr := [((ad 21), .inl (cI, 16, .inl m_further_23)), ((ad 20), .inl (cI, 16, .inl m_ways))]) [2, 3] [0, 1] rfl rfl rfl rfl (by decide) (As := [.int v1_23]) (rest := []) rfl hl.1 rfl (Nat.le_of_ble_eq_true rfl) dX10_stepUp_33 (fun H locs hP hD hS => ?_)
          refine W.eq (g2 := F0 m 36 ls [.int r33]) rfl ?_
          have hP : va_P (dC, dI) vwCl [((ad 21), .inl (cI, 16, .inl m_further_23)), ((ad 20), .inl (cI, 16, .inl m_ways)), (ad 0, .inr (10, oM ad m_undoCount m_thrown m_hasSnapshot a_m_fam m_rows m_lineLength m_formattedLength m_bufferLength m_limit m_next m_beginsAt m_token m_error m_errorAt m_errorPosition m_nested m_codeCount)), (a_m_fam, .inl (cJ, 130, .inr (.inl m_fam)))] H := hP
          have hD : va_D A [((ad 21), .inl (cI, 16, .inl m_further_23)), ((ad 20), .inl (cI, 16, .inl m_ways)), (ad 0, .inr (10, oM ad m_undoCount m_thrown m_hasSnapshot a_m_fam m_rows m_lineLength m_formattedLength m_bufferLength m_limit m_next m_beginsAt m_token m_error m_errorAt m_errorPosition m_nested m_codeCount)), (a_m_fam, .inl (cJ, 130, .inr (.inl m_fam)))] := hD
          refine lv_istore_n (lv' := [(2, .int r33), (0, .ref (ad 0)), (1, .int v1_23)]) hx hb dX10_stepUp_36 rfl hl (by decide) rfl (fun ls hl => ?_)
          refine lv_iload_n hx hb dX10_stepUp_37 rfl (lv_at hl 0 rfl) ?_
          refine lv_iconst (v := -1) hx hb dX10_stepUp_38 (by decide) ?_
          refine lv_icmp_eq (tgt := 82) hx hb dX10_stepUp_39 (by decide) (fun h9 => ?_) (fun h9 => ?_)
          · have hf := itt h9 hf
            obtain ⟨t82, h9⟩ : ∃ z : Int32, z = (v1_23 + (1 : Int32)) := ⟨_, rfl⟩
            have hf := lb_e h9 hf
            refine lv_iinc (v := t82) (lv' := [(1, .int t82), (2, .int r33), (0, .ref (ad 0))]) hx hb dX10_stepUp_82 hl (k := 2) rfl (by rw [h9]; rfl) (by decide) rfl (fun ls hl => ?_)
            refine lv_goto (tgt := 23) hx hb dX10_stepUp_85 (by decide) ?_
            exact ih23 t82 m_further_23 ex23 H locs ls hf hk23 (hP.sub [2, 3, 0, 1] rfl) (hD.sub [2, 3, 0, 1] (by decide) rfl) hS (lv_sub hl [2, 0] rfl)
          · have hf := itf h9 hf
            refine lv_aload_n hx hb dX10_stepUp_42 rfl (lv_at hl 1 rfl) ?_
            refine va_get (D := (dC, dI)) (ci := 10) (v := .ref (ad 21)) (C := RX10) (T := TX10) (N := 37) hx hb htg inX10 hown hE.1 hP 2 rfl rfl 20 (by decide) (htg _ tw1402) (fun _ h9 => h9) rfl dX10_stepUp_43 ?_
            refine lv_aload_n hx hb dX10_stepUp_46 rfl (lv_at hl 1 rfl) ?_
            refine lv_iload_n hx hb dX10_stepUp_47 rfl (lv_at hl 0 rfl) ?_
            refine lv_iconst (v := 0) hx hb dX10_stepUp_48 (by decide) ?_
            obtain ⟨r49, h9, hf⟩ := ob_s hf
            refine gcV (index := 102) S hE (c_X10_partner ad a_m_fam m_undoCount m_thrown m_hasSnapshot m_rows m_lineLength m_formattedLength m_bufferLength m_limit m_next m_beginsAt m_token m_error m_errorAt m_errorPosition m_nested m_codeCount m_fam r33 (0 : Int32) r49 h9) mX10_partner tw1527 ⟨Nat.le_of_ble_eq_true rfl, Nat.le_of_ble_eq_true rfl⟩ hP hD hS hA ⟨Nat.zero_le _, Nat.zero_le _⟩ 2 10 rfl rfl rfl (wr := [((ad 21), .inl (cI, 16, .inl m_further_23)), ((ad 20), .inl (cI, 16, .inl m_ways))]) [2, 3] [0, 1] rfl rfl rfl rfl (by decide) (As := [.int r33, .int (0 : Int32)]) (rest := [.ref (ad 21)]) rfl hl.1 rfl (Nat.le_of_ble_eq_true rfl) dX10_stepUp_49 (fun H locs hP hD hS => ?_)
            refine W.eq (g2 := F0 m 52 ls [.int r49, .ref (ad 21)]) rfl ?_
            have hP : va_P (dC, dI) vwCl [((ad 21), .inl (cI, 16, .inl m_further_23)), ((ad 20), .inl (cI, 16, .inl m_ways)), (ad 0, .inr (10, oM ad m_undoCount m_thrown m_hasSnapshot a_m_fam m_rows m_lineLength m_formattedLength m_bufferLength m_limit m_next m_beginsAt m_token m_error m_errorAt m_errorPosition m_nested m_codeCount)), (a_m_fam, .inl (cJ, 130, .inr (.inl m_fam)))] H := hP
            have hD : va_D A [((ad 21), .inl (cI, 16, .inl m_further_23)), ((ad 20), .inl (cI, 16, .inl m_ways)), (ad 0, .inr (10, oM ad m_undoCount m_thrown m_hasSnapshot a_m_fam m_rows m_lineLength m_formattedLength m_bufferLength m_limit m_next m_beginsAt m_token m_error m_errorAt m_errorPosition m_nested m_codeCount)), (a_m_fam, .inl (cJ, 130, .inr (.inl m_fam)))] := hD
            refine lv_dup2_11 hx hb dX10_stepUp_52 rfl rfl ?_
            obtain ⟨h9, hf⟩ := gd_s hf
            refine va_iald hx hb hE.1 hP 0 0 rfl rfl h9 dX10_stepUp_53 ?_
            refine lv_aload_n hx hb dX10_stepUp_54 rfl (lv_at hl 1 rfl) ?_
            refine va_get (D := (dC, dI)) (ci := 10) (v := .ref (ad 20)) (C := RX10) (T := TX10) (N := 37) hx hb htg inX10 hown hE.1 hP 2 rfl rfl 19 (by decide) (htg _ tw1401) (fun _ h9 => h9) rfl dX10_stepUp_55 ?_
            refine lv_iload_n hx hb dX10_stepUp_58 rfl (lv_at hl 2 rfl) ?_
            obtain ⟨h9, hf⟩ := gd_s hf
            refine va_iald hx hb hE.1 hP 1 0 rfl rfl h9 dX10_stepUp_59 ?_
            refine lv_iadd hx hb dX10_stepUp_60 ?_
            obtain ⟨h9, hf⟩ := gd_s hf
            refine va_iast hx hb hE.1 hP hD hS 0 0 rfl rfl h9 dX10_stepUp_61 (fun H locs hP hD hS => ?_)
            obtain ⟨g61, h9⟩ : ∃ z, z = (upd m_further_23 r49.toNatClampNeg ((m_further_23 r49.toNatClampNeg) + (m_ways v1_23.toNatClampNeg))) := ⟨_, rfl⟩
            have hf := lb_e h9 hf
            have hP : va_P (dC, dI) vwCl [((ad 21), .inl (cI, 16, .inl g61)), ((ad 20), .inl (cI, 16, .inl m_ways)), (ad 0, .inr (10, oM ad m_undoCount m_thrown m_hasSnapshot a_m_fam m_rows m_lineLength m_formattedLength m_bufferLength m_limit m_next m_beginsAt m_token m_error m_errorAt m_errorPosition m_nested m_codeCount)), (a_m_fam, .inl (cJ, 130, .inr (.inl m_fam)))] H := by rw [h9]; exact hP
            have hD : va_D A [((ad 21), .inl (cI, 16, .inl g61)), ((ad 20), .inl (cI, 16, .inl m_ways)), (ad 0, .inr (10, oM ad m_undoCount m_thrown m_hasSnapshot a_m_fam m_rows m_lineLength m_formattedLength m_bufferLength m_limit m_next m_beginsAt m_token m_error m_errorAt m_errorPosition m_nested m_codeCount)), (a_m_fam, .inl (cJ, 130, .inr (.inl m_fam)))] := by rw [h9]; exact hD
            refine lv_aload_n hx hb dX10_stepUp_62 rfl (lv_at hl 1 rfl) ?_
            refine va_get (D := (dC, dI)) (ci := 10) (v := .ref (ad 21)) (C := RX10) (T := TX10) (N := 37) hx hb htg inX10 hown hE.1 hP 2 rfl rfl 20 (by decide) (htg _ tw1402) (fun _ h9 => h9) rfl dX10_stepUp_63 ?_
            refine lv_aload_n hx hb dX10_stepUp_66 rfl (lv_at hl 1 rfl) ?_
            refine lv_iload_n hx hb dX10_stepUp_67 rfl (lv_at hl 0 rfl) ?_
            refine lv_iconst (v := 1) hx hb dX10_stepUp_68 (by decide) ?_
            obtain ⟨r69, h9, hf⟩ := ob_s hf
            refine gcV (index := 102) S hE (c_X10_partner ad a_m_fam m_undoCount m_thrown m_hasSnapshot m_rows m_lineLength m_formattedLength m_bufferLength m_limit m_next m_beginsAt m_token m_error m_errorAt m_errorPosition m_nested m_codeCount m_fam r33 (1 : Int32) r69 h9) mX10_partner tw1527 ⟨Nat.le_of_ble_eq_true rfl, Nat.le_of_ble_eq_true rfl⟩ hP hD hS hA ⟨Nat.zero_le _, Nat.zero_le _⟩ 2 10 rfl rfl rfl (wr := [((ad 21), .inl (cI, 16, .inl g61)), ((ad 20), .inl (cI, 16, .inl m_ways))]) [2, 3] [0, 1] rfl rfl rfl rfl (by decide) (As := [.int r33, .int (1 : Int32)]) (rest := [.ref (ad 21)]) rfl hl.1 rfl (Nat.le_of_ble_eq_true rfl) dX10_stepUp_69 (fun H locs hP hD hS => ?_)
            refine W.eq (g2 := F0 m 72 ls [.int r69, .ref (ad 21)]) rfl ?_
            have hP : va_P (dC, dI) vwCl [((ad 21), .inl (cI, 16, .inl g61)), ((ad 20), .inl (cI, 16, .inl m_ways)), (ad 0, .inr (10, oM ad m_undoCount m_thrown m_hasSnapshot a_m_fam m_rows m_lineLength m_formattedLength m_bufferLength m_limit m_next m_beginsAt m_token m_error m_errorAt m_errorPosition m_nested m_codeCount)), (a_m_fam, .inl (cJ, 130, .inr (.inl m_fam)))] H := hP
            have hD : va_D A [((ad 21), .inl (cI, 16, .inl g61)), ((ad 20), .inl (cI, 16, .inl m_ways)), (ad 0, .inr (10, oM ad m_undoCount m_thrown m_hasSnapshot a_m_fam m_rows m_lineLength m_formattedLength m_bufferLength m_limit m_next m_beginsAt m_token m_error m_errorAt m_errorPosition m_nested m_codeCount)), (a_m_fam, .inl (cJ, 130, .inr (.inl m_fam)))] := hD
            refine lv_dup2_11 hx hb dX10_stepUp_72 rfl rfl ?_
            obtain ⟨h9, hf⟩ := gd_s hf
            refine va_iald hx hb hE.1 hP 0 0 rfl rfl h9 dX10_stepUp_73 ?_
            refine lv_aload_n hx hb dX10_stepUp_74 rfl (lv_at hl 1 rfl) ?_
            refine va_get (D := (dC, dI)) (ci := 10) (v := .ref (ad 20)) (C := RX10) (T := TX10) (N := 37) hx hb htg inX10 hown hE.1 hP 2 rfl rfl 19 (by decide) (htg _ tw1401) (fun _ h9 => h9) rfl dX10_stepUp_75 ?_
            refine lv_iload_n hx hb dX10_stepUp_78 rfl (lv_at hl 2 rfl) ?_
            obtain ⟨h9, hf⟩ := gd_s hf
            refine va_iald hx hb hE.1 hP 1 0 rfl rfl h9 dX10_stepUp_79 ?_
            refine lv_iadd hx hb dX10_stepUp_80 ?_
            obtain ⟨h9, hf⟩ := gd_s hf
            refine va_iast hx hb hE.1 hP hD hS 0 0 rfl rfl h9 dX10_stepUp_81 (fun H locs hP hD hS => ?_)
            obtain ⟨g81, h9⟩ : ∃ z, z = (upd g61 r69.toNatClampNeg ((g61 r69.toNatClampNeg) + (m_ways v1_23.toNatClampNeg))) := ⟨_, rfl⟩
            have hf := lb_e h9 hf
            have hP : va_P (dC, dI) vwCl [((ad 21), .inl (cI, 16, .inl g81)), ((ad 20), .inl (cI, 16, .inl m_ways)), (ad 0, .inr (10, oM ad m_undoCount m_thrown m_hasSnapshot a_m_fam m_rows m_lineLength m_formattedLength m_bufferLength m_limit m_next m_beginsAt m_token m_error m_errorAt m_errorPosition m_nested m_codeCount)), (a_m_fam, .inl (cJ, 130, .inr (.inl m_fam)))] H := by rw [h9]; exact hP
            have hD : va_D A [((ad 21), .inl (cI, 16, .inl g81)), ((ad 20), .inl (cI, 16, .inl m_ways)), (ad 0, .inr (10, oM ad m_undoCount m_thrown m_hasSnapshot a_m_fam m_rows m_lineLength m_formattedLength m_bufferLength m_limit m_next m_beginsAt m_token m_error m_errorAt m_errorPosition m_nested m_codeCount)), (a_m_fam, .inl (cJ, 130, .inr (.inl m_fam)))] := by rw [h9]; exact hD
            obtain ⟨t82, h9⟩ : ∃ z : Int32, z = (v1_23 + (1 : Int32)) := ⟨_, rfl⟩
            have hf := lb_e h9 hf
            refine lv_iinc (v := t82) (lv' := [(1, .int t82), (2, .int r33), (0, .ref (ad 0))]) hx hb dX10_stepUp_82 hl (k := 2) rfl (by rw [h9]; rfl) (by decide) rfl (fun ls hl => ?_)
            refine lv_goto (tgt := 23) hx hb dX10_stepUp_85 (by decide) ?_
            exact ih23 t82 g81 ex23 H locs ls hf hk23 (hP.sub [2, 3, 0, 1] rfl) (hD.sub [2, 3, 0, 1] (by decide) rfl) hS (lv_sub hl [2, 0] rfl)
    obtain ⟨ex, h9, hf⟩ := ob_s hf
    exact K23 FU (0 : Int32) m_further_21 ex H locs ls h9 hf hP hD hS (lv_sub hl [1, 0] rfl)
  refine lv_iconst (v := 0) hx hb dX10_stepUp_0 (by decide) ?_
  refine lv_istore_n (lv' := [(1, .int (0 : Int32)), (0, .ref (ad 0))]) hx hb dX10_stepUp_1 rfl hl (by decide) rfl (fun ls hl => ?_)
  have K2 : ∀ (n2 : Nat) (v1_2 : Int32) (m_further_2 : Nat → Int32) (ex2 : (Nat → Int32)) (H : Heap) (locs : List Loc) (ls : Array Slot), p10_stepUp_L2 n2 v1_2 m_further_2 = some ex2 → (fun m_further_x2 => p10_stepUp_J21 m_fam m_ways m_further_x2) ex2 = some (m_further_9, m_ways_9) → va_P (dC, dI) vwCl [(ad 0, .inr (10, oM ad m_undoCount m_thrown m_hasSnapshot a_m_fam m_rows m_lineLength m_formattedLength m_bufferLength m_limit m_next m_beginsAt m_token m_error m_errorAt m_errorPosition m_nested m_codeCount)), (a_m_fam, .inl (cJ, 130, .inr (.inl m_fam))), ((ad 21), .inl (cI, 16, .inl m_further_2)), ((ad 20), .inl (cI, 16, .inl m_ways))] H → va_D A [(ad 0, .inr (10, oM ad m_undoCount m_thrown m_hasSnapshot a_m_fam m_rows m_lineLength m_formattedLength m_bufferLength m_limit m_next m_beginsAt m_token m_error m_errorAt m_errorPosition m_nested m_codeCount)), (a_m_fam, .inl (cJ, 130, .inr (.inl m_fam))), ((ad 21), .inl (cI, 16, .inl m_further_2)), ((ad 20), .inl (cI, 16, .inl m_ways))] → va_S A s.heap H locs → lv_has ls 3 [(0, .ref (ad 0)), (1, .int v1_2)] → W p l e ({ frames := 2, cells := 0, slots := 0, locals := 43 }) s m ([.ref (ad 0)] : List Value).toArray below meth c H locs 0 0 (MQ below (gQ dC dI none A [(ad 0, .inr (10, oM ad m_undoCount m_thrown m_hasSnapshot a_m_fam m_rows m_lineLength m_formattedLength m_bufferLength m_limit m_next m_beginsAt m_token m_error m_errorAt m_errorPosition m_nested m_codeCount)), (a_m_fam, .inl (cJ, 130, .inr (.inl m_fam))), ((ad 21), .inl (cI, 16, .inl m_further_9)), ((ad 20), .inl (cI, 16, .inl m_ways_9))]) ([.ref (ad 0)] : List Value).toArray s 0 0 A) (F0 m 2 ls []) := by
    intro n2
    induction n2 with
    | zero => intro v1_2 m_further_2 ex2 H locs ls hf; rw [p10_stepUp_L2] at hf; cases hf
    | succ n2 ih2 =>
      intro v1_2 m_further_2 ex2 H locs ls hf hk2 hP hD hS hl
      rw [p10_stepUp_L2, p10_stepUp_L2_B] at hf
      refine lv_iload_n hx hb dX10_stepUp_2 rfl (lv_at hl 1 rfl) ?_
      refine lv_bipush (v := 16) hx hb dX10_stepUp_3 (by decide) ?_
      refine lv_icmp_ge (tgt := 21) hx hb dX10_stepUp_5 (by decide) (fun h9 => ?_) (fun h9 => ?_)
      · have hf := itt h9 hf
        cases hf
        have hf := hk2
        exact J21 m_further_2 H locs ls hf hP hD hS (lv_sub hl [0] rfl)
      · have hf := itf h9 hf
        refine lv_aload_n hx hb dX10_stepUp_8 rfl (lv_at hl 0 rfl) ?_
        refine va_get (D := (dC, dI)) (ci := 10) (v := .ref (ad 21)) (C := RX10) (T := TX10) (N := 37) hx hb htg inX10 hown hE.1 hP 0 rfl rfl 20 (by decide) (htg _ tw1402) (fun _ h9 => h9) rfl dX10_stepUp_9 ?_
        refine lv_iload_n hx hb dX10_stepUp_12 rfl (lv_at hl 1 rfl) ?_
        refine lv_iconst (v := 0) hx hb dX10_stepUp_13 (by decide) ?_
        obtain ⟨h9, hf⟩ := gd_s hf
        refine va_iast hx hb hE.1 hP hD hS 2 0 rfl rfl h9 dX10_stepUp_14 (fun H locs hP hD hS => ?_)
        obtain ⟨g14, h9⟩ : ∃ z, z = (upd m_further_2 v1_2.toNatClampNeg (0 : Int32)) := ⟨_, rfl⟩
        have hf := lb_e h9 hf
        have hP : va_P (dC, dI) vwCl [(ad 0, .inr (10, oM ad m_undoCount m_thrown m_hasSnapshot a_m_fam m_rows m_lineLength m_formattedLength m_bufferLength m_limit m_next m_beginsAt m_token m_error m_errorAt m_errorPosition m_nested m_codeCount)), (a_m_fam, .inl (cJ, 130, .inr (.inl m_fam))), ((ad 21), .inl (cI, 16, .inl g14)), ((ad 20), .inl (cI, 16, .inl m_ways))] H := by rw [h9]; exact hP
        have hD : va_D A [(ad 0, .inr (10, oM ad m_undoCount m_thrown m_hasSnapshot a_m_fam m_rows m_lineLength m_formattedLength m_bufferLength m_limit m_next m_beginsAt m_token m_error m_errorAt m_errorPosition m_nested m_codeCount)), (a_m_fam, .inl (cJ, 130, .inr (.inl m_fam))), ((ad 21), .inl (cI, 16, .inl g14)), ((ad 20), .inl (cI, 16, .inl m_ways))] := by rw [h9]; exact hD
        obtain ⟨t15, h9⟩ : ∃ z : Int32, z = (v1_2 + (1 : Int32)) := ⟨_, rfl⟩
        have hf := lb_e h9 hf
        refine lv_iinc (v := t15) (lv' := [(1, .int t15), (0, .ref (ad 0))]) hx hb dX10_stepUp_15 hl (k := 1) rfl (by rw [h9]; rfl) (by decide) rfl (fun ls hl => ?_)
        refine lv_goto (tgt := 2) hx hb dX10_stepUp_18 (by decide) ?_
        exact ih2 t15 g14 ex2 H locs ls hf hk2 hP hD hS (lv_sub hl [1, 0] rfl)
  obtain ⟨ex, h9, hf⟩ := ob_s hf
  exact K2 FU (0 : Int32) m_further ex H locs ls h9 hf hP hD hS (lv_sub hl [1, 0] rfl)
def p10_linesTo_J52 (v3_52 : Int32) (m_thrown_52 : Int32) (m_further_52 : Nat → Int32) (m_ways_52 : Nat → Int32) : Option (Int32 × (Nat → Int32) × Int32 × (Nat → Int32)) := some (v3_52, m_further_52, m_thrown_52, m_ways_52)
def p10_linesTo_L26_B (m_fam : Nat → Int64) (v2 : Int32) (k26 : Int32 → Int32 → (Nat → Int32) → (Nat → Int32) → Option (Int32 × (Nat → Int32) × (Nat → Int32))) (v3_26 : Int32) (v4_26 : Int32) (m_further_26 : Nat → Int32) (m_ways_26 : Nat → Int32) : Option (Int32 × (Nat → Int32) × (Nat → Int32)) := (if (16 : Int32) ≤ v4_26 then some (v3_26, m_further_26, m_ways_26) else ob (p10_stepUp m_fam m_further_26 m_ways_26) (uc2 fun m_further_34 m_ways_34 => gd v2 16 (lb (v3_26 + (m_ways_34 v2.toNatClampNeg)) (fun t45 => lb (v4_26 + (1 : Int32)) (fun t46 => (k26 t45 t46 m_further_34 m_ways_34))))))
def p10_linesTo_L26 (m_fam : Nat → Int64) (v2 : Int32) : Nat → Int32 → Int32 → (Nat → Int32) → (Nat → Int32) → Option (Int32 × (Nat → Int32) × (Nat → Int32))
  | 0, _, _, _, _ => none
  | n+1, v3_26, v4_26, m_further_26, m_ways_26 => p10_linesTo_L26_B m_fam v2 (p10_linesTo_L26 m_fam v2 n) v3_26 v4_26 m_further_26 m_ways_26
def p10_linesTo (m_fam : Nat → Int64) (m_further : Nat → Int32) (m_ways : Nat → Int32) (v1 : Int32) (v2 : Int32) : Option (Int32 × (Nat → Int32) × Int32 × (Nat → Int32)) := ob (p10_arePersons m_fam v1 v2) (uc2 fun r3 m_thrown_3 => (cond r3 (ob (p10_beginWays m_ways v1) (fun m_ways_13 => gd v2 16 (lb (m_ways_13 v2.toNatClampNeg) (fun t22 => (ob (p10_linesTo_L26 m_fam v2 FU t22 (0 : Int32) m_further m_ways_13) (uc3 fun v3_x26 m_further_x26 m_ways_x26 => p10_linesTo_J52 v3_x26 m_thrown_3 m_further_x26 m_ways_x26)))))) (some ((0 : Int32), m_further, m_thrown_3, m_ways))))
set_option maxHeartbeats 4000000 in
set_option maxRecDepth 100000 in
theorem c_X10_linesTo (ad : Nat → Nat) (a_m_fam : Nat) (m_undoCount : Int32) (m_thrown : Int32) (m_hasSnapshot : Bool) (m_rows : Int32) (m_lineLength : Int32) (m_formattedLength : Int32) (m_bufferLength : Int32) (m_limit : Int32) (m_next : Int32) (m_beginsAt : Int32) (m_token : Int32) (m_error : Int32) (m_errorAt : Int32) (m_errorPosition : Int32) (m_nested : Int32) (m_codeCount : Int32) (m_fam : Nat → Int64) (m_further : Nat → Int32) (m_ways : Nat → Int32) (v1 : Int32) (v2 : Int32) (r9 : Int32) (m_further_9 : Nat → Int32) (m_thrown_9 : Int32) (m_ways_9 : Nat → Int32) (hf : p10_linesTo m_fam m_further m_ways v1 v2 = some (r9, m_further_9, m_thrown_9, m_ways_9)) : gM l dC dI cI cJ cZ yX10_linesTo cX10_linesTo 5 (some .int) (3) (68) [.ref (ad 0), .int v1, .int v2] [(ad 0, .inr (10, oM ad m_undoCount m_thrown m_hasSnapshot a_m_fam m_rows m_lineLength m_formattedLength m_bufferLength m_limit m_next m_beginsAt m_token m_error m_errorAt m_errorPosition m_nested m_codeCount)), (a_m_fam, .inl (cJ, 130, .inr (.inl m_fam))), ((ad 21), .inl (cI, 16, .inl m_further)), ((ad 20), .inl (cI, 16, .inl m_ways))] [(ad 0, .inr (10, oM ad m_undoCount m_thrown_9 m_hasSnapshot a_m_fam m_rows m_lineLength m_formattedLength m_bufferLength m_limit m_next m_beginsAt m_token m_error m_errorAt m_errorPosition m_nested m_codeCount)), (a_m_fam, .inl (cJ, 130, .inr (.inl m_fam))), ((ad 21), .inl (cI, 16, .inl m_further_9)), ((ad 20), .inl (cI, 16, .inl m_ways_9))] (some (.int r9)) := by
  refine g_start (own := RX10) (by decide +kernel) rfl (Nat.le_of_ble_eq_true rfl) ?_
  intro p e s m below meth c A ls S hr hlocks hE hP hD hS hA hl hin
  have hx := S.1
  have hb := S.2.1
  have hml := S.2.2.1
  have hown := S.2.2.2.1
  have htg : ∀ z ∈ gw, z.before ([.ref (ad 0), .int v1, .int v2] : List Value).toArray s = true := fun w h => S.2.2.2.2 w (List.mem_cons_of_mem _ h)
  have hl : lv_has ls 5 [(0, .ref (ad 0)), (1, .int v1), (2, .int v2)] := hl
  have hS0 := hS
  obtain ⟨H, hH⟩ : ∃ H, H = s.heap := ⟨_, rfl⟩
  obtain ⟨locs, hlc⟩ : ∃ locs : List Loc, locs = [] := ⟨_, rfl⟩
  have hS : va_S A s.heap H locs := by rw [hH, hlc]; exact hS0
  have hP : va_P (dC, dI) vwCl [(ad 0, .inr (10, oM ad m_undoCount m_thrown m_hasSnapshot a_m_fam m_rows m_lineLength m_formattedLength m_bufferLength m_limit m_next m_beginsAt m_token m_error m_errorAt m_errorPosition m_nested m_codeCount)), (a_m_fam, .inl (cJ, 130, .inr (.inl m_fam))), ((ad 21), .inl (cI, 16, .inl m_further)), ((ad 20), .inl (cI, 16, .inl m_ways))] H := by rw [hH]; exact hP
  suffices hgo : W p l e ({ frames := 3, cells := 0, slots := 0, locals := 68 }) s m ([.ref (ad 0), .int v1, .int v2] : List Value).toArray below meth c H locs 0 0 (MQ below (gQ dC dI (some (.int r9)) A [(ad 0, .inr (10, oM ad m_undoCount m_thrown_9 m_hasSnapshot a_m_fam m_rows m_lineLength m_formattedLength m_bufferLength m_limit m_next m_beginsAt m_token m_error m_errorAt m_errorPosition m_nested m_codeCount)), (a_m_fam, .inl (cJ, 130, .inr (.inl m_fam))), ((ad 21), .inl (cI, 16, .inl m_further_9)), ((ad 20), .inl (cI, 16, .inl m_ways_9))]) ([.ref (ad 0), .int v1, .int v2] : List Value).toArray s 0 0 A) (F0 m 0 ls []) by rw [hH, hlc] at hgo; exact hgo
  rw [p10_linesTo] at hf
  have J52 : ∀ (v3_52 : Int32) (m_thrown_52 : Int32) (m_further_52 : Nat → Int32) (m_ways_52 : Nat → Int32) (H : Heap) (locs : List Loc) (ls : Array Slot), p10_linesTo_J52 v3_52 m_thrown_52 m_further_52 m_ways_52 = some (r9, m_further_9, m_thrown_9, m_ways_9) → va_P (dC, dI) vwCl [(ad 0, .inr (10, oM ad m_undoCount m_thrown_52 m_hasSnapshot a_m_fam m_rows m_lineLength m_formattedLength m_bufferLength m_limit m_next m_beginsAt m_token m_error m_errorAt m_errorPosition m_nested m_codeCount)), (a_m_fam, .inl (cJ, 130, .inr (.inl m_fam))), ((ad 21), .inl (cI, 16, .inl m_further_52)), ((ad 20), .inl (cI, 16, .inl m_ways_52))] H → va_D A [(ad 0, .inr (10, oM ad m_undoCount m_thrown_52 m_hasSnapshot a_m_fam m_rows m_lineLength m_formattedLength m_bufferLength m_limit m_next m_beginsAt m_token m_error m_errorAt m_errorPosition m_nested m_codeCount)), (a_m_fam, .inl (cJ, 130, .inr (.inl m_fam))), ((ad 21), .inl (cI, 16, .inl m_further_52)), ((ad 20), .inl (cI, 16, .inl m_ways_52))] → va_S A s.heap H locs → lv_has ls 5 [(3, .int v3_52)] → W p l e ({ frames := 3, cells := 0, slots := 0, locals := 68 }) s m ([.ref (ad 0), .int v1, .int v2] : List Value).toArray below meth c H locs 0 0 (MQ below (gQ dC dI (some (.int r9)) A [(ad 0, .inr (10, oM ad m_undoCount m_thrown_9 m_hasSnapshot a_m_fam m_rows m_lineLength m_formattedLength m_bufferLength m_limit m_next m_beginsAt m_token m_error m_errorAt m_errorPosition m_nested m_codeCount)), (a_m_fam, .inl (cJ, 130, .inr (.inl m_fam))), ((ad 21), .inl (cI, 16, .inl m_further_9)), ((ad 20), .inl (cI, 16, .inl m_ways_9))]) ([.ref (ad 0), .int v1, .int v2] : List Value).toArray s 0 0 A) (F0 m 52 ls []) := by
    intro v3_52 m_thrown_52 m_further_52 m_ways_52 H locs ls hf hP hD hS hl
    rw [p10_linesTo_J52] at hf
    refine lv_iload_n hx hb dX10_linesTo_52 rfl (lv_at hl 0 rfl) ?_
    cases hf
    exact g_iret S hr hlocks hP hD hS dX10_linesTo_53
  refine lv_aload_n hx hb dX10_linesTo_0 rfl (lv_at hl 0 rfl) ?_
  refine lv_iload_n hx hb dX10_linesTo_1 rfl (lv_at hl 1 rfl) ?_
  refine lv_iload_n hx hb dX10_linesTo_2 rfl (lv_at hl 2 rfl) ?_
  obtain ⟨⟨r3, m_thrown_3⟩, h9, hf⟩ := ob_s hf
  have hf := uc2_e hf
  refine gcV (index := 272) S hE (c_X10_arePersons ad a_m_fam m_undoCount m_thrown m_hasSnapshot m_rows m_lineLength m_formattedLength m_bufferLength m_limit m_next m_beginsAt m_token m_error m_errorAt m_errorPosition m_nested m_codeCount m_fam v1 v2 r3 m_thrown_3 h9) mX10_arePersons tw1664 ⟨Nat.le_of_ble_eq_true rfl, Nat.le_of_ble_eq_true rfl⟩ hP hD hS hA ⟨Nat.zero_le _, Nat.zero_le _⟩ 0 10 rfl rfl rfl (wr := [((ad 21), .inl (cI, 16, .inl m_further)), ((ad 20), .inl (cI, 16, .inl m_ways))]) [0, 1] [2, 3] rfl rfl rfl rfl (by decide) (As := [.int v1, .int v2]) (rest := []) rfl hl.1 rfl (Nat.le_of_ble_eq_true rfl) dX10_linesTo_3 (fun H locs hP hD hS => ?_)
  refine W.eq (g2 := F0 m 6 ls [.int (bI r3)]) rfl ?_
  have hP : va_P (dC, dI) vwCl [((ad 21), .inl (cI, 16, .inl m_further)), ((ad 20), .inl (cI, 16, .inl m_ways)), (ad 0, .inr (10, oM ad m_undoCount m_thrown_3 m_hasSnapshot a_m_fam m_rows m_lineLength m_formattedLength m_bufferLength m_limit m_next m_beginsAt m_token m_error m_errorAt m_errorPosition m_nested m_codeCount)), (a_m_fam, .inl (cJ, 130, .inr (.inl m_fam)))] H := hP
  have hD : va_D A [((ad 21), .inl (cI, 16, .inl m_further)), ((ad 20), .inl (cI, 16, .inl m_ways)), (ad 0, .inr (10, oM ad m_undoCount m_thrown_3 m_hasSnapshot a_m_fam m_rows m_lineLength m_formattedLength m_bufferLength m_limit m_next m_beginsAt m_token m_error m_errorAt m_errorPosition m_nested m_codeCount)), (a_m_fam, .inl (cJ, 130, .inr (.inl m_fam)))] := hD
  refine lv_if_ne (tgt := 11) hx hb dX10_linesTo_6 (by decide) (fun h9 => ?_) (fun h9 => ?_)
  · have hf := ctt (bI_1 h9) hf
    refine lv_aload_n hx hb dX10_linesTo_11 rfl (lv_at hl 0 rfl) ?_
    refine lv_iload_n hx hb dX10_linesTo_12 rfl (lv_at hl 1 rfl) ?_
    obtain ⟨m_ways_13, h9, hf⟩ := ob_s hf
    refine gcV (index := 281) S hE (c_X10_beginWays ad a_m_fam m_undoCount m_thrown_3 m_hasSnapshot m_rows m_lineLength m_formattedLength m_bufferLength m_limit m_next m_beginsAt m_token m_error m_errorAt m_errorPosition m_nested m_codeCount m_ways v1 m_ways_13 h9) mX10_beginWays tw1695 ⟨Nat.le_of_ble_eq_true rfl, Nat.le_of_ble_eq_true rfl⟩ hP hD hS hA ⟨Nat.zero_le _, Nat.zero_le _⟩ 2 10 rfl rfl rfl (wr := [((ad 21), .inl (cI, 16, .inl m_further)), (a_m_fam, .inl (cJ, 130, .inr (.inl m_fam)))]) [2, 1] [0, 3] rfl rfl rfl rfl (by decide) (As := [.int v1]) (rest := []) rfl hl.1 rfl (Nat.le_of_ble_eq_true rfl) dX10_linesTo_13 (fun H locs hP hD hS => ?_)
    refine W.eq (g2 := F0 m 16 ls []) rfl ?_
    have hP : va_P (dC, dI) vwCl [((ad 21), .inl (cI, 16, .inl m_further)), (a_m_fam, .inl (cJ, 130, .inr (.inl m_fam))), (ad 0, .inr (10, oM ad m_undoCount m_thrown_3 m_hasSnapshot a_m_fam m_rows m_lineLength m_formattedLength m_bufferLength m_limit m_next m_beginsAt m_token m_error m_errorAt m_errorPosition m_nested m_codeCount)), ((ad 20), .inl (cI, 16, .inl m_ways_13))] H := hP
    have hD : va_D A [((ad 21), .inl (cI, 16, .inl m_further)), (a_m_fam, .inl (cJ, 130, .inr (.inl m_fam))), (ad 0, .inr (10, oM ad m_undoCount m_thrown_3 m_hasSnapshot a_m_fam m_rows m_lineLength m_formattedLength m_bufferLength m_limit m_next m_beginsAt m_token m_error m_errorAt m_errorPosition m_nested m_codeCount)), ((ad 20), .inl (cI, 16, .inl m_ways_13))] := hD
    refine lv_aload_n hx hb dX10_linesTo_16 rfl (lv_at hl 0 rfl) ?_
    refine va_get (D := (dC, dI)) (ci := 10) (v := .ref (ad 20)) (C := RX10) (T := TX10) (N := 37) hx hb htg inX10 hown hE.1 hP 2 rfl rfl 19 (by decide) (htg _ tw1401) (fun _ h9 => h9) rfl dX10_linesTo_17 ?_
    refine lv_iload_n hx hb dX10_linesTo_20 rfl (lv_at hl 2 rfl) ?_
    obtain ⟨h9, hf⟩ := gd_s hf
    refine va_iald hx hb hE.1 hP 3 0 rfl rfl h9 dX10_linesTo_21 ?_
    refine lv_topi (fun t22 h9 => ?_)
    have hf := lb_e h9 hf
    refine lv_istore_n (lv' := [(3, .int t22), (0, .ref (ad 0)), (1, .int v1), (2, .int v2)]) hx hb dX10_linesTo_22 rfl hl (by decide) rfl (fun ls hl => ?_)
    refine lv_iconst (v := 0) hx hb dX10_linesTo_23 (by decide) ?_
    refine lv_istore (lv' := [(4, .int (0 : Int32)), (3, .int t22), (0, .ref (ad 0)), (1, .int v1), (2, .int v2)]) hx hb dX10_linesTo_24 hl (by decide) rfl (fun ls hl => ?_)
    have K26 : ∀ (n26 : Nat) (v3_26 : Int32) (v4_26 : Int32) (m_further_26 : Nat → Int32) (m_ways_26 : Nat → Int32) (ex26 : Int32 × (Nat → Int32) × (Nat → Int32)) (H : Heap) (locs : List Loc) (ls : Array Slot), p10_linesTo_L26 m_fam v2 n26 v3_26 v4_26 m_further_26 m_ways_26 = some ex26 → (uc3 fun v3_x26 m_further_x26 m_ways_x26 => p10_linesTo_J52 v3_x26 m_thrown_3 m_further_x26 m_ways_x26) ex26 = some (r9, m_further_9, m_thrown_9, m_ways_9) → va_P (dC, dI) vwCl [(ad 0, .inr (10, oM ad m_undoCount m_thrown_3 m_hasSnapshot a_m_fam m_rows m_lineLength m_formattedLength m_bufferLength m_limit m_next m_beginsAt m_token m_error m_errorAt m_errorPosition m_nested m_codeCount)), (a_m_fam, .inl (cJ, 130, .inr (.inl m_fam))), ((ad 21), .inl (cI, 16, .inl m_further_26)), ((ad 20), .inl (cI, 16, .inl m_ways_26))] H → va_D A [(ad 0, .inr (10, oM ad m_undoCount m_thrown_3 m_hasSnapshot a_m_fam m_rows m_lineLength m_formattedLength m_bufferLength m_limit m_next m_beginsAt m_token m_error m_errorAt m_errorPosition m_nested m_codeCount)), (a_m_fam, .inl (cJ, 130, .inr (.inl m_fam))), ((ad 21), .inl (cI, 16, .inl m_further_26)), ((ad 20), .inl (cI, 16, .inl m_ways_26))] → va_S A s.heap H locs → lv_has ls 5 [(0, .ref (ad 0)), (2, .int v2), (3, .int v3_26), (4, .int v4_26)] → W p l e ({ frames := 3, cells := 0, slots := 0, locals := 68 }) s m ([.ref (ad 0), .int v1, .int v2] : List Value).toArray below meth c H locs 0 0 (MQ below (gQ dC dI (some (.int r9)) A [(ad 0, .inr (10, oM ad m_undoCount m_thrown_9 m_hasSnapshot a_m_fam m_rows m_lineLength m_formattedLength m_bufferLength m_limit m_next m_beginsAt m_token m_error m_errorAt m_errorPosition m_nested m_codeCount)), (a_m_fam, .inl (cJ, 130, .inr (.inl m_fam))), ((ad 21), .inl (cI, 16, .inl m_further_9)), ((ad 20), .inl (cI, 16, .inl m_ways_9))]) ([.ref (ad 0), .int v1, .int v2] : List Value).toArray s 0 0 A) (F0 m 26 ls []) := by
      intro n26
      induction n26 with
      | zero => intro v3_26 v4_26 m_further_26 m_ways_26 ex26 H locs ls hf; rw [p10_linesTo_L26] at hf; cases hf
      | succ n26 ih26 =>
        intro v3_26 v4_26 m_further_26 m_ways_26 ex26 H locs ls hf hk26 hP hD hS hl
        rw [p10_linesTo_L26, p10_linesTo_L26_B] at hf
        refine lv_iload hx hb dX10_linesTo_26 (lv_at hl 3 rfl) ?_
        refine lv_bipush (v := 16) hx hb dX10_linesTo_28 (by decide) ?_
        refine lv_icmp_ge (tgt := 52) hx hb dX10_linesTo_30 (by decide) (fun h9 => ?_) (fun h9 => ?_)
        · have hf := itt h9 hf
          cases hf
          have hf := hk26
          have hf := uc3_e hf
          exact J52 v3_26 m_thrown_3 m_further_26 m_ways_26 H locs ls hf hP hD hS (lv_sub hl [2] rfl)
        · have hf := itf h9 hf
          refine lv_aload_n hx hb dX10_linesTo_33 rfl (lv_at hl 0 rfl) ?_
          obtain ⟨⟨m_further_34, m_ways_34⟩, h9, hf⟩ := ob_s hf
          have hf := uc2_e hf
          refine gcV (index := 284) S hE (c_X10_stepUp ad a_m_fam m_undoCount m_thrown_3 m_hasSnapshot m_rows m_lineLength m_formattedLength m_bufferLength m_limit m_next m_beginsAt m_token m_error m_errorAt m_errorPosition m_nested m_codeCount m_fam m_further_26 m_ways_26 m_further_34 m_ways_34 h9) mX10_stepUp tw1699 ⟨Nat.le_of_ble_eq_true rfl, Nat.le_of_ble_eq_true rfl⟩ hP hD hS hA ⟨Nat.zero_le _, Nat.zero_le _⟩ 0 10 rfl rfl rfl (wr := []) [0, 1, 2, 3] [] rfl rfl rfl rfl (by decide) (As := []) (rest := []) rfl hl.1 rfl (Nat.le_of_ble_eq_true rfl) dX10_linesTo_34 (fun H locs hP hD hS => ?_)
          refine W.eq (g2 := F0 m 37 ls []) rfl ?_
          have hP : va_P (dC, dI) vwCl [(ad 0, .inr (10, oM ad m_undoCount m_thrown_3 m_hasSnapshot a_m_fam m_rows m_lineLength m_formattedLength m_bufferLength m_limit m_next m_beginsAt m_token m_error m_errorAt m_errorPosition m_nested m_codeCount)), (a_m_fam, .inl (cJ, 130, .inr (.inl m_fam))), ((ad 21), .inl (cI, 16, .inl m_further_34)), ((ad 20), .inl (cI, 16, .inl m_ways_34))] H := hP
          have hD : va_D A [(ad 0, .inr (10, oM ad m_undoCount m_thrown_3 m_hasSnapshot a_m_fam m_rows m_lineLength m_formattedLength m_bufferLength m_limit m_next m_beginsAt m_token m_error m_errorAt m_errorPosition m_nested m_codeCount)), (a_m_fam, .inl (cJ, 130, .inr (.inl m_fam))), ((ad 21), .inl (cI, 16, .inl m_further_34)), ((ad 20), .inl (cI, 16, .inl m_ways_34))] := hD
          refine lv_iload_n hx hb dX10_linesTo_37 rfl (lv_at hl 2 rfl) ?_
          refine lv_aload_n hx hb dX10_linesTo_38 rfl (lv_at hl 0 rfl) ?_
          refine va_get (D := (dC, dI)) (ci := 10) (v := .ref (ad 20)) (C := RX10) (T := TX10) (N := 37) hx hb htg inX10 hown hE.1 hP 0 rfl rfl 19 (by decide) (htg _ tw1401) (fun _ h9 => h9) rfl dX10_linesTo_39 ?_
          refine lv_iload_n hx hb dX10_linesTo_42 rfl (lv_at hl 1 rfl) ?_
          obtain ⟨h9, hf⟩ := gd_s hf
          refine va_iald hx hb hE.1 hP 3 0 rfl rfl h9 dX10_linesTo_43 ?_
          refine lv_iadd hx hb dX10_linesTo_44 ?_
          refine lv_topi (fun t45 h9 => ?_)
          have hf := lb_e h9 hf
          refine lv_istore_n (lv' := [(3, .int t45), (0, .ref (ad 0)), (2, .int v2), (4, .int v4_26)]) hx hb dX10_linesTo_45 rfl hl (by decide) rfl (fun ls hl => ?_)
          obtain ⟨t46, h9⟩ : ∃ z : Int32, z = (v4_26 + (1 : Int32)) := ⟨_, rfl⟩
          have hf := lb_e h9 hf
          refine lv_iinc (v := t46) (lv' := [(4, .int t46), (3, .int t45), (0, .ref (ad 0)), (2, .int v2)]) hx hb dX10_linesTo_46 hl (k := 3) rfl (by rw [h9]; rfl) (by decide) rfl (fun ls hl => ?_)
          refine lv_goto (tgt := 26) hx hb dX10_linesTo_49 (by decide) ?_
          exact ih26 t45 t46 m_further_34 m_ways_34 ex26 H locs ls hf hk26 hP hD hS (lv_sub hl [2, 3, 1, 0] rfl)
    obtain ⟨ex, h9, hf⟩ := ob_s hf
    exact K26 FU t22 (0 : Int32) m_further m_ways_13 ex H locs ls h9 hf (hP.sub [2, 1, 0, 3] rfl) (hD.sub [2, 1, 0, 3] (by decide) rfl) hS (lv_sub hl [2, 4, 1, 0] rfl)
  · have hf := ctf (bI_0 h9) hf
    refine lv_iconst (v := 0) hx hb dX10_linesTo_9 (by decide) ?_
    cases hf
    exact g_iret S hr hlocks (hP.sub [2, 3, 0, 1] rfl) (hD.sub [2, 3, 0, 1] (by decide) rfl) hS dX10_linesTo_10
def p10_nearestAncestor_J98 (v4_98 : Int32) (m_thrown_98 : Int32) (m_rows_98 : Int32) (m_generation_98 : Nat → Int32) (m_level_98 : Nat → Int32) : Option (Int32 × (Nat → Int32) × (Nat → Int32) × Int32 × Int32) := some (v4_98, m_generation_98, m_level_98, m_rows_98, m_thrown_98)
def p10_nearestAncestor_L41_B (m_fam : Nat → Int64) (m_generation_12 : Nat → Int32) (t34 : Int32) (k41 : Int32 → Int32 → Option (Int32)) (v4_41 : Int32) (v5_41 : Int32) : Option (Int32) := ob (p10_persons m_fam) (fun r44 => (if r44 ≤ v5_41 then some v4_41 else (if ((t34 >>> (v5_41 &&& 31)) &&& (1 : Int32)) = (1 : Int32) then (if v4_41 = (-1 : Int32) then lb (v5_41 + (1 : Int32)) (fun t92 => (k41 v5_41 t92)) else gd v5_41 16 (gd v4_41 16 ((if (m_generation_12 v5_41.toNatClampNeg) ≤ (m_generation_12 v4_41.toNatClampNeg) then lb (v5_41 + (1 : Int32)) (fun t92 => (k41 v4_41 t92)) else lb (v5_41 + (1 : Int32)) (fun t92 => (k41 v5_41 t92)))))) else lb (v5_41 + (1 : Int32)) (fun t92 => (k41 v4_41 t92)))))
def p10_nearestAncestor_L41 (m_fam : Nat → Int64) (m_generation_12 : Nat → Int32) (t34 : Int32) : Nat → Int32 → Int32 → Option (Int32)
  | 0, _, _ => none
  | n+1, v4_41, v5_41 => p10_nearestAncestor_L41_B m_fam m_generation_12 t34 (p10_nearestAncestor_L41 m_fam m_generation_12 t34 n) v4_41 v5_41
def p10_nearestAncestor (m_rows : Int32) (m_fam : Nat → Int64) (m_generation : Nat → Int32) (m_level : Nat → Int32) (v1 : Int32) (v2 : Int32) : Option (Int32 × (Nat → Int32) × (Nat → Int32) × Int32 × Int32) := ob (p10_arePersons m_fam v1 v2) (uc2 fun r3 m_thrown_3 => (cond r3 (ob (p10_layGenerations m_fam m_generation m_level) (uc3 fun m_generation_12 m_level_12 m_rows_12 => ob (p10_ancestorMask m_fam v1) (fun r17 => ob (p10_ancestorMask m_fam v2) (fun r26 => lb ((r17 ||| ((1 : Int32) <<< (v1 &&& 31))) &&& (r26 ||| ((1 : Int32) <<< (v2 &&& 31)))) (fun t34 => (ob (p10_nearestAncestor_L41 m_fam m_generation_12 t34 FU (-1 : Int32) (0 : Int32)) (fun v4_x41 => p10_nearestAncestor_J98 v4_x41 m_thrown_3 m_rows_12 m_generation_12 m_level_12))))))) (some ((0 : Int32), m_generation, m_level, m_rows, m_thrown_3))))
set_option maxHeartbeats 4000000 in
set_option maxRecDepth 100000 in
theorem c_X10_nearestAncestor (ad : Nat → Nat) (a_m_fam : Nat) (m_undoCount : Int32) (m_thrown : Int32) (m_hasSnapshot : Bool) (m_rows : Int32) (m_lineLength : Int32) (m_formattedLength : Int32) (m_bufferLength : Int32) (m_limit : Int32) (m_next : Int32) (m_beginsAt : Int32) (m_token : Int32) (m_error : Int32) (m_errorAt : Int32) (m_errorPosition : Int32) (m_nested : Int32) (m_codeCount : Int32) (m_fam : Nat → Int64) (m_generation : Nat → Int32) (m_level : Nat → Int32) (v1 : Int32) (v2 : Int32) (r9 : Int32) (m_generation_9 : Nat → Int32) (m_level_9 : Nat → Int32) (m_rows_9 : Int32) (m_thrown_9 : Int32) (hf : p10_nearestAncestor m_rows m_fam m_generation m_level v1 v2 = some (r9, m_generation_9, m_level_9, m_rows_9, m_thrown_9)) : gM l dC dI cI cJ cZ yX10_nearestAncestor cX10_nearestAncestor 6 (some .int) (3) (70) [.ref (ad 0), .int v1, .int v2] [(ad 0, .inr (10, oM ad m_undoCount m_thrown m_hasSnapshot a_m_fam m_rows m_lineLength m_formattedLength m_bufferLength m_limit m_next m_beginsAt m_token m_error m_errorAt m_errorPosition m_nested m_codeCount)), (a_m_fam, .inl (cJ, 130, .inr (.inl m_fam))), ((ad 9), .inl (cI, 16, .inl m_generation)), ((ad 10), .inl (cI, 12, .inl m_level))] [(ad 0, .inr (10, oM ad m_undoCount m_thrown_9 m_hasSnapshot a_m_fam m_rows_9 m_lineLength m_formattedLength m_bufferLength m_limit m_next m_beginsAt m_token m_error m_errorAt m_errorPosition m_nested m_codeCount)), (a_m_fam, .inl (cJ, 130, .inr (.inl m_fam))), ((ad 9), .inl (cI, 16, .inl m_generation_9)), ((ad 10), .inl (cI, 12, .inl m_level_9))] (some (.int r9)) := by
  refine g_start (own := RX10) (by decide +kernel) rfl (Nat.le_of_ble_eq_true rfl) ?_
  intro p e s m below meth c A ls S hr hlocks hE hP hD hS hA hl hin
  have hx := S.1
  have hb := S.2.1
  have hml := S.2.2.1
  have hown := S.2.2.2.1
  have htg : ∀ z ∈ gw, z.before ([.ref (ad 0), .int v1, .int v2] : List Value).toArray s = true := fun w h => S.2.2.2.2 w (List.mem_cons_of_mem _ h)
  have hl : lv_has ls 6 [(0, .ref (ad 0)), (1, .int v1), (2, .int v2)] := hl
  have hS0 := hS
  obtain ⟨H, hH⟩ : ∃ H, H = s.heap := ⟨_, rfl⟩
  obtain ⟨locs, hlc⟩ : ∃ locs : List Loc, locs = [] := ⟨_, rfl⟩
  have hS : va_S A s.heap H locs := by rw [hH, hlc]; exact hS0
  have hP : va_P (dC, dI) vwCl [(ad 0, .inr (10, oM ad m_undoCount m_thrown m_hasSnapshot a_m_fam m_rows m_lineLength m_formattedLength m_bufferLength m_limit m_next m_beginsAt m_token m_error m_errorAt m_errorPosition m_nested m_codeCount)), (a_m_fam, .inl (cJ, 130, .inr (.inl m_fam))), ((ad 9), .inl (cI, 16, .inl m_generation)), ((ad 10), .inl (cI, 12, .inl m_level))] H := by rw [hH]; exact hP
  suffices hgo : W p l e ({ frames := 3, cells := 0, slots := 0, locals := 70 }) s m ([.ref (ad 0), .int v1, .int v2] : List Value).toArray below meth c H locs 0 0 (MQ below (gQ dC dI (some (.int r9)) A [(ad 0, .inr (10, oM ad m_undoCount m_thrown_9 m_hasSnapshot a_m_fam m_rows_9 m_lineLength m_formattedLength m_bufferLength m_limit m_next m_beginsAt m_token m_error m_errorAt m_errorPosition m_nested m_codeCount)), (a_m_fam, .inl (cJ, 130, .inr (.inl m_fam))), ((ad 9), .inl (cI, 16, .inl m_generation_9)), ((ad 10), .inl (cI, 12, .inl m_level_9))]) ([.ref (ad 0), .int v1, .int v2] : List Value).toArray s 0 0 A) (F0 m 0 ls []) by rw [hH, hlc] at hgo; exact hgo
  rw [p10_nearestAncestor] at hf
  have J98 : ∀ (v4_98 : Int32) (m_thrown_98 : Int32) (m_rows_98 : Int32) (m_generation_98 : Nat → Int32) (m_level_98 : Nat → Int32) (H : Heap) (locs : List Loc) (ls : Array Slot), p10_nearestAncestor_J98 v4_98 m_thrown_98 m_rows_98 m_generation_98 m_level_98 = some (r9, m_generation_9, m_level_9, m_rows_9, m_thrown_9) → va_P (dC, dI) vwCl [(ad 0, .inr (10, oM ad m_undoCount m_thrown_98 m_hasSnapshot a_m_fam m_rows_98 m_lineLength m_formattedLength m_bufferLength m_limit m_next m_beginsAt m_token m_error m_errorAt m_errorPosition m_nested m_codeCount)), (a_m_fam, .inl (cJ, 130, .inr (.inl m_fam))), ((ad 9), .inl (cI, 16, .inl m_generation_98)), ((ad 10), .inl (cI, 12, .inl m_level_98))] H → va_D A [(ad 0, .inr (10, oM ad m_undoCount m_thrown_98 m_hasSnapshot a_m_fam m_rows_98 m_lineLength m_formattedLength m_bufferLength m_limit m_next m_beginsAt m_token m_error m_errorAt m_errorPosition m_nested m_codeCount)), (a_m_fam, .inl (cJ, 130, .inr (.inl m_fam))), ((ad 9), .inl (cI, 16, .inl m_generation_98)), ((ad 10), .inl (cI, 12, .inl m_level_98))] → va_S A s.heap H locs → lv_has ls 6 [(4, .int v4_98)] → W p l e ({ frames := 3, cells := 0, slots := 0, locals := 70 }) s m ([.ref (ad 0), .int v1, .int v2] : List Value).toArray below meth c H locs 0 0 (MQ below (gQ dC dI (some (.int r9)) A [(ad 0, .inr (10, oM ad m_undoCount m_thrown_9 m_hasSnapshot a_m_fam m_rows_9 m_lineLength m_formattedLength m_bufferLength m_limit m_next m_beginsAt m_token m_error m_errorAt m_errorPosition m_nested m_codeCount)), (a_m_fam, .inl (cJ, 130, .inr (.inl m_fam))), ((ad 9), .inl (cI, 16, .inl m_generation_9)), ((ad 10), .inl (cI, 12, .inl m_level_9))]) ([.ref (ad 0), .int v1, .int v2] : List Value).toArray s 0 0 A) (F0 m 98 ls []) := by
    intro v4_98 m_thrown_98 m_rows_98 m_generation_98 m_level_98 H locs ls hf hP hD hS hl
    rw [p10_nearestAncestor_J98] at hf
    refine lv_iload hx hb dX10_nearestAncestor_98 (lv_at hl 0 rfl) ?_
    cases hf
    exact g_iret S hr hlocks hP hD hS dX10_nearestAncestor_100
  refine lv_aload_n hx hb dX10_nearestAncestor_0 rfl (lv_at hl 0 rfl) ?_
  refine lv_iload_n hx hb dX10_nearestAncestor_1 rfl (lv_at hl 1 rfl) ?_
  refine lv_iload_n hx hb dX10_nearestAncestor_2 rfl (lv_at hl 2 rfl) ?_
  obtain ⟨⟨r3, m_thrown_3⟩, h9, hf⟩ := ob_s hf
  have hf := uc2_e hf
  refine gcV (index := 272) S hE (c_X10_arePersons ad a_m_fam m_undoCount m_thrown m_hasSnapshot m_rows m_lineLength m_formattedLength m_bufferLength m_limit m_next m_beginsAt m_token m_error m_errorAt m_errorPosition m_nested m_codeCount m_fam v1 v2 r3 m_thrown_3 h9) mX10_arePersons tw1664 ⟨Nat.le_of_ble_eq_true rfl, Nat.le_of_ble_eq_true rfl⟩ hP hD hS hA ⟨Nat.zero_le _, Nat.zero_le _⟩ 0 10 rfl rfl rfl (wr := [((ad 9), .inl (cI, 16, .inl m_generation)), ((ad 10), .inl (cI, 12, .inl m_level))]) [0, 1] [2, 3] rfl rfl rfl rfl (by decide) (As := [.int v1, .int v2]) (rest := []) rfl hl.1 rfl (Nat.le_of_ble_eq_true rfl) dX10_nearestAncestor_3 (fun H locs hP hD hS => ?_)
  refine W.eq (g2 := F0 m 6 ls [.int (bI r3)]) rfl ?_
  have hP : va_P (dC, dI) vwCl [((ad 9), .inl (cI, 16, .inl m_generation)), ((ad 10), .inl (cI, 12, .inl m_level)), (ad 0, .inr (10, oM ad m_undoCount m_thrown_3 m_hasSnapshot a_m_fam m_rows m_lineLength m_formattedLength m_bufferLength m_limit m_next m_beginsAt m_token m_error m_errorAt m_errorPosition m_nested m_codeCount)), (a_m_fam, .inl (cJ, 130, .inr (.inl m_fam)))] H := hP
  have hD : va_D A [((ad 9), .inl (cI, 16, .inl m_generation)), ((ad 10), .inl (cI, 12, .inl m_level)), (ad 0, .inr (10, oM ad m_undoCount m_thrown_3 m_hasSnapshot a_m_fam m_rows m_lineLength m_formattedLength m_bufferLength m_limit m_next m_beginsAt m_token m_error m_errorAt m_errorPosition m_nested m_codeCount)), (a_m_fam, .inl (cJ, 130, .inr (.inl m_fam)))] := hD
  refine lv_if_ne (tgt := 11) hx hb dX10_nearestAncestor_6 (by decide) (fun h9 => ?_) (fun h9 => ?_)
  · have hf := ctt (bI_1 h9) hf
    refine lv_aload_n hx hb dX10_nearestAncestor_11 rfl (lv_at hl 0 rfl) ?_
    obtain ⟨⟨m_generation_12, m_level_12, m_rows_12⟩, h9, hf⟩ := ob_s hf
    have hf := uc3_e hf
    refine gcV (index := 138) S hE (c_X10_layGenerations ad a_m_fam m_undoCount m_thrown_3 m_hasSnapshot m_rows m_lineLength m_formattedLength m_bufferLength m_limit m_next m_beginsAt m_token m_error m_errorAt m_errorPosition m_nested m_codeCount m_fam m_generation m_level m_generation_12 m_level_12 m_rows_12 h9) mX10_layGenerations tw1507 ⟨Nat.le_of_ble_eq_true rfl, Nat.le_of_ble_eq_true rfl⟩ hP hD hS hA ⟨Nat.zero_le _, Nat.zero_le _⟩ 2 10 rfl rfl rfl (wr := []) [2, 3, 0, 1] [] rfl rfl rfl rfl (by decide) (As := []) (rest := []) rfl hl.1 rfl (Nat.le_of_ble_eq_true rfl) dX10_nearestAncestor_12 (fun H locs hP hD hS => ?_)
    refine W.eq (g2 := F0 m 15 ls []) rfl ?_
    have hP : va_P (dC, dI) vwCl [(ad 0, .inr (10, oM ad m_undoCount m_thrown_3 m_hasSnapshot a_m_fam m_rows_12 m_lineLength m_formattedLength m_bufferLength m_limit m_next m_beginsAt m_token m_error m_errorAt m_errorPosition m_nested m_codeCount)), (a_m_fam, .inl (cJ, 130, .inr (.inl m_fam))), ((ad 9), .inl (cI, 16, .inl m_generation_12)), ((ad 10), .inl (cI, 12, .inl m_level_12))] H := hP
    have hD : va_D A [(ad 0, .inr (10, oM ad m_undoCount m_thrown_3 m_hasSnapshot a_m_fam m_rows_12 m_lineLength m_formattedLength m_bufferLength m_limit m_next m_beginsAt m_token m_error m_errorAt m_errorPosition m_nested m_codeCount)), (a_m_fam, .inl (cJ, 130, .inr (.inl m_fam))), ((ad 9), .inl (cI, 16, .inl m_generation_12)), ((ad 10), .inl (cI, 12, .inl m_level_12))] := hD
    refine lv_aload_n hx hb dX10_nearestAncestor_15 rfl (lv_at hl 0 rfl) ?_
    refine lv_iload_n hx hb dX10_nearestAncestor_16 rfl (lv_at hl 1 rfl) ?_
    obtain ⟨r17, h9, hf⟩ := ob_s hf
    refine gcV (index := 254) S hE (c_X10_ancestorMask ad a_m_fam m_undoCount m_thrown_3 m_hasSnapshot m_rows_12 m_lineLength m_formattedLength m_bufferLength m_limit m_next m_beginsAt m_token m_error m_errorAt m_errorPosition m_nested m_codeCount m_fam v1 r17 h9) mX10_ancestorMask tw1648 ⟨Nat.le_of_ble_eq_true rfl, Nat.le_of_ble_eq_true rfl⟩ hP hD hS hA ⟨Nat.zero_le _, Nat.zero_le _⟩ 0 10 rfl rfl rfl (wr := [((ad 9), .inl (cI, 16, .inl m_generation_12)), ((ad 10), .inl (cI, 12, .inl m_level_12))]) [0, 1] [2, 3] rfl rfl rfl rfl (by decide) (As := [.int v1]) (rest := []) rfl hl.1 rfl (Nat.le_of_ble_eq_true rfl) dX10_nearestAncestor_17 (fun H locs hP hD hS => ?_)
    refine W.eq (g2 := F0 m 20 ls [.int r17]) rfl ?_
    have hP : va_P (dC, dI) vwCl [((ad 9), .inl (cI, 16, .inl m_generation_12)), ((ad 10), .inl (cI, 12, .inl m_level_12)), (ad 0, .inr (10, oM ad m_undoCount m_thrown_3 m_hasSnapshot a_m_fam m_rows_12 m_lineLength m_formattedLength m_bufferLength m_limit m_next m_beginsAt m_token m_error m_errorAt m_errorPosition m_nested m_codeCount)), (a_m_fam, .inl (cJ, 130, .inr (.inl m_fam)))] H := hP
    have hD : va_D A [((ad 9), .inl (cI, 16, .inl m_generation_12)), ((ad 10), .inl (cI, 12, .inl m_level_12)), (ad 0, .inr (10, oM ad m_undoCount m_thrown_3 m_hasSnapshot a_m_fam m_rows_12 m_lineLength m_formattedLength m_bufferLength m_limit m_next m_beginsAt m_token m_error m_errorAt m_errorPosition m_nested m_codeCount)), (a_m_fam, .inl (cJ, 130, .inr (.inl m_fam)))] := hD
    refine lv_iconst (v := 1) hx hb dX10_nearestAncestor_20 (by decide) ?_
    refine lv_iload_n hx hb dX10_nearestAncestor_21 rfl (lv_at hl 1 rfl) ?_
    refine lv_ishl hx hb dX10_nearestAncestor_22 ?_
    refine lv_ior hx hb dX10_nearestAncestor_23 ?_
    refine lv_aload_n hx hb dX10_nearestAncestor_24 rfl (lv_at hl 0 rfl) ?_
    refine lv_iload_n hx hb dX10_nearestAncestor_25 rfl (lv_at hl 2 rfl) ?_
    obtain ⟨r26, h9, hf⟩ := ob_s hf
    refine gcV (index := 254) S hE (c_X10_ancestorMask ad a_m_fam m_undoCount m_thrown_3 m_hasSnapshot m_rows_12 m_lineLength m_formattedLength m_bufferLength m_limit m_next m_beginsAt m_token m_error m_errorAt m_errorPosition m_nested m_codeCount m_fam v2 r26 h9) mX10_ancestorMask tw1648 ⟨Nat.le_of_ble_eq_true rfl, Nat.le_of_ble_eq_true rfl⟩ hP hD hS hA ⟨Nat.zero_le _, Nat.zero_le _⟩ 2 10 rfl rfl rfl (wr := [((ad 9), .inl (cI, 16, .inl m_generation_12)), ((ad 10), .inl (cI, 12, .inl m_level_12))]) [2, 3] [0, 1] rfl rfl rfl rfl (by decide) (As := [.int v2]) (rest := [.int (r17 ||| ((1 : Int32) <<< (v1 &&& 31)))]) rfl hl.1 rfl (Nat.le_of_ble_eq_true rfl) dX10_nearestAncestor_26 (fun H locs hP hD hS => ?_)
    refine W.eq (g2 := F0 m 29 ls [.int r26, .int (r17 ||| ((1 : Int32) <<< (v1 &&& 31)))]) rfl ?_
    have hP : va_P (dC, dI) vwCl [((ad 9), .inl (cI, 16, .inl m_generation_12)), ((ad 10), .inl (cI, 12, .inl m_level_12)), (ad 0, .inr (10, oM ad m_undoCount m_thrown_3 m_hasSnapshot a_m_fam m_rows_12 m_lineLength m_formattedLength m_bufferLength m_limit m_next m_beginsAt m_token m_error m_errorAt m_errorPosition m_nested m_codeCount)), (a_m_fam, .inl (cJ, 130, .inr (.inl m_fam)))] H := hP
    have hD : va_D A [((ad 9), .inl (cI, 16, .inl m_generation_12)), ((ad 10), .inl (cI, 12, .inl m_level_12)), (ad 0, .inr (10, oM ad m_undoCount m_thrown_3 m_hasSnapshot a_m_fam m_rows_12 m_lineLength m_formattedLength m_bufferLength m_limit m_next m_beginsAt m_token m_error m_errorAt m_errorPosition m_nested m_codeCount)), (a_m_fam, .inl (cJ, 130, .inr (.inl m_fam)))] := hD
    refine lv_iconst (v := 1) hx hb dX10_nearestAncestor_29 (by decide) ?_
    refine lv_iload_n hx hb dX10_nearestAncestor_30 rfl (lv_at hl 2 rfl) ?_
    refine lv_ishl hx hb dX10_nearestAncestor_31 ?_
    refine lv_ior hx hb dX10_nearestAncestor_32 ?_
    refine lv_iand hx hb dX10_nearestAncestor_33 ?_
    refine lv_topi (fun t34 h9 => ?_)
    have hf := lb_e h9 hf
    refine lv_istore_n (lv' := [(3, .int t34), (0, .ref (ad 0)), (1, .int v1), (2, .int v2)]) hx hb dX10_nearestAncestor_34 rfl hl (by decide) rfl (fun ls hl => ?_)
    refine lv_iconst (v := -1) hx hb dX10_nearestAncestor_35 (by decide) ?_
    refine lv_istore (lv' := [(4, .int (-1 : Int32)), (3, .int t34), (0, .ref (ad 0)), (1, .int v1), (2, .int v2)]) hx hb dX10_nearestAncestor_36 hl (by decide) rfl (fun ls hl => ?_)
    refine lv_iconst (v := 0) hx hb dX10_nearestAncestor_38 (by decide) ?_
    refine lv_istore (lv' := [(5, .int (0 : Int32)), (4, .int (-1 : Int32)), (3, .int t34), (0, .ref (ad 0)), (1, .int v1), (2, .int v2)]) hx hb dX10_nearestAncestor_39 hl (by decide) rfl (fun ls hl => ?_)
    have K41 : ∀ (n41 : Nat) (v4_41 : Int32) (v5_41 : Int32) (ex41 : Int32) (H : Heap) (locs : List Loc) (ls : Array Slot), p10_nearestAncestor_L41 m_fam m_generation_12 t34 n41 v4_41 v5_41 = some ex41 → (fun v4_x41 => p10_nearestAncestor_J98 v4_x41 m_thrown_3 m_rows_12 m_generation_12 m_level_12) ex41 = some (r9, m_generation_9, m_level_9, m_rows_9, m_thrown_9) → va_P (dC, dI) vwCl [(ad 0, .inr (10, oM ad m_undoCount m_thrown_3 m_hasSnapshot a_m_fam m_rows_12 m_lineLength m_formattedLength m_bufferLength m_limit m_next m_beginsAt m_token m_error m_errorAt m_errorPosition m_nested m_codeCount)), (a_m_fam, .inl (cJ, 130, .inr (.inl m_fam))), ((ad 9), .inl (cI, 16, .inl m_generation_12)), ((ad 10), .inl (cI, 12, .inl m_level_12))] H → va_D A [(ad 0, .inr (10, oM ad m_undoCount m_thrown_3 m_hasSnapshot a_m_fam m_rows_12 m_lineLength m_formattedLength m_bufferLength m_limit m_next m_beginsAt m_token m_error m_errorAt m_errorPosition m_nested m_codeCount)), (a_m_fam, .inl (cJ, 130, .inr (.inl m_fam))), ((ad 9), .inl (cI, 16, .inl m_generation_12)), ((ad 10), .inl (cI, 12, .inl m_level_12))] → va_S A s.heap H locs → lv_has ls 6 [(0, .ref (ad 0)), (3, .int t34), (4, .int v4_41), (5, .int v5_41)] → W p l e ({ frames := 3, cells := 0, slots := 0, locals := 70 }) s m ([.ref (ad 0), .int v1, .int v2] : List Value).toArray below meth c H locs 0 0 (MQ below (gQ dC dI (some (.int r9)) A [(ad 0, .inr (10, oM ad m_undoCount m_thrown_9 m_hasSnapshot a_m_fam m_rows_9 m_lineLength m_formattedLength m_bufferLength m_limit m_next m_beginsAt m_token m_error m_errorAt m_errorPosition m_nested m_codeCount)), (a_m_fam, .inl (cJ, 130, .inr (.inl m_fam))), ((ad 9), .inl (cI, 16, .inl m_generation_9)), ((ad 10), .inl (cI, 12, .inl m_level_9))]) ([.ref (ad 0), .int v1, .int v2] : List Value).toArray s 0 0 A) (F0 m 41 ls []) := by
      intro n41
      induction n41 with
      | zero => intro v4_41 v5_41 ex41 H locs ls hf; rw [p10_nearestAncestor_L41] at hf; cases hf
      | succ n41 ih41 =>
        intro v4_41 v5_41 ex41 H locs ls hf hk41 hP hD hS hl
        rw [p10_nearestAncestor_L41, p10_nearestAncestor_L41_B] at hf
        refine lv_iload hx hb dX10_nearestAncestor_41 (lv_at hl 3 rfl) ?_
        refine lv_aload_n hx hb dX10_nearestAncestor_43 rfl (lv_at hl 0 rfl) ?_
        obtain ⟨r44, h9, hf⟩ := ob_s hf
        refine gcV (index := 121) S hE (c_X10_persons ad a_m_fam m_undoCount m_thrown_3 m_hasSnapshot m_rows_12 m_lineLength m_formattedLength m_bufferLength m_limit m_next m_beginsAt m_token m_error m_errorAt m_errorPosition m_nested m_codeCount m_fam r44 h9) mX10_persons tw1511 ⟨Nat.le_of_ble_eq_true rfl, Nat.le_of_ble_eq_true rfl⟩ hP hD hS hA ⟨Nat.zero_le _, Nat.zero_le _⟩ 0 10 rfl rfl rfl (wr := [((ad 9), .inl (cI, 16, .inl m_generation_12)), ((ad 10), .inl (cI, 12, .inl m_level_12))]) [0, 1] [2, 3] rfl rfl rfl rfl (by decide) (As := []) (rest := [.int v5_41]) rfl hl.1 rfl (Nat.le_of_ble_eq_true rfl) dX10_nearestAncestor_44 (fun H locs hP hD hS => ?_)
        refine W.eq (g2 := F0 m 47 ls [.int r44, .int v5_41]) rfl ?_
        have hP : va_P (dC, dI) vwCl [((ad 9), .inl (cI, 16, .inl m_generation_12)), ((ad 10), .inl (cI, 12, .inl m_level_12)), (ad 0, .inr (10, oM ad m_undoCount m_thrown_3 m_hasSnapshot a_m_fam m_rows_12 m_lineLength m_formattedLength m_bufferLength m_limit m_next m_beginsAt m_token m_error m_errorAt m_errorPosition m_nested m_codeCount)), (a_m_fam, .inl (cJ, 130, .inr (.inl m_fam)))] H := hP
        have hD : va_D A [((ad 9), .inl (cI, 16, .inl m_generation_12)), ((ad 10), .inl (cI, 12, .inl m_level_12)), (ad 0, .inr (10, oM ad m_undoCount m_thrown_3 m_hasSnapshot a_m_fam m_rows_12 m_lineLength m_formattedLength m_bufferLength m_limit m_next m_beginsAt m_token m_error m_errorAt m_errorPosition m_nested m_codeCount)), (a_m_fam, .inl (cJ, 130, .inr (.inl m_fam)))] := hD
        refine lv_icmp_ge (tgt := 98) hx hb dX10_nearestAncestor_47 (by decide) (fun h9 => ?_) (fun h9 => ?_)
        · have hf := itt h9 hf
          cases hf
          have hf := hk41
          exact J98 v4_41 m_thrown_3 m_rows_12 m_generation_12 m_level_12 H locs ls hf (hP.sub [2, 3, 0, 1] rfl) (hD.sub [2, 3, 0, 1] (by decide) rfl) hS (lv_sub hl [2] rfl)
        · have hf := itf h9 hf
          refine lv_iload_n hx hb dX10_nearestAncestor_50 rfl (lv_at hl 1 rfl) ?_
          refine lv_iload hx hb dX10_nearestAncestor_51 (lv_at hl 3 rfl) ?_
          refine lv_ishr hx hb dX10_nearestAncestor_53 ?_
          refine lv_iconst (v := 1) hx hb dX10_nearestAncestor_54 (by decide) ?_
          refine lv_iand hx hb dX10_nearestAncestor_55 ?_
          refine lv_iconst (v := 1) hx hb dX10_nearestAncestor_56 (by decide) ?_
          refine lv_icmp_ne (tgt := 88) hx hb dX10_nearestAncestor_57 (by decide) (fun h9 => ?_) (fun h9 => ?_)
          · have hf := itf h9 hf
            refine lv_iload hx hb dX10_nearestAncestor_88 (lv_at hl 2 rfl) ?_
            refine lv_istore (lv' := [(4, .int v4_41), (0, .ref (ad 0)), (3, .int t34), (5, .int v5_41)]) hx hb dX10_nearestAncestor_90 hl (by decide) rfl (fun ls hl => ?_)
            obtain ⟨t92, h9⟩ : ∃ z : Int32, z = (v5_41 + (1 : Int32)) := ⟨_, rfl⟩
            have hf := lb_e h9 hf
            refine lv_iinc (v := t92) (lv' := [(5, .int t92), (4, .int v4_41), (0, .ref (ad 0)), (3, .int t34)]) hx hb dX10_nearestAncestor_92 hl (k := 3) rfl (by rw [h9]; rfl) (by decide) rfl (fun ls hl => ?_)
            refine lv_goto (tgt := 41) hx hb dX10_nearestAncestor_95 (by decide) ?_
            exact ih41 v4_41 t92 ex41 H locs ls hf hk41 (hP.sub [2, 3, 0, 1] rfl) (hD.sub [2, 3, 0, 1] (by decide) rfl) hS (lv_sub hl [2, 3, 1, 0] rfl)
          · have hf := itt h9 hf
            refine lv_iload hx hb dX10_nearestAncestor_60 (lv_at hl 2 rfl) ?_
            refine lv_iconst (v := -1) hx hb dX10_nearestAncestor_62 (by decide) ?_
            refine lv_icmp_eq (tgt := 83) hx hb dX10_nearestAncestor_63 (by decide) (fun h9 => ?_) (fun h9 => ?_)
            · have hf := itt h9 hf
              refine lv_iload hx hb dX10_nearestAncestor_83 (lv_at hl 3 rfl) ?_
              refine lv_goto (tgt := 90) hx hb dX10_nearestAncestor_85 (by decide) ?_
              refine lv_istore (lv' := [(4, .int v5_41), (0, .ref (ad 0)), (3, .int t34), (5, .int v5_41)]) hx hb dX10_nearestAncestor_90 hl (by decide) rfl (fun ls hl => ?_)
              obtain ⟨t92, h9⟩ : ∃ z : Int32, z = (v5_41 + (1 : Int32)) := ⟨_, rfl⟩
              have hf := lb_e h9 hf
              refine lv_iinc (v := t92) (lv' := [(5, .int t92), (4, .int v5_41), (0, .ref (ad 0)), (3, .int t34)]) hx hb dX10_nearestAncestor_92 hl (k := 3) rfl (by rw [h9]; rfl) (by decide) rfl (fun ls hl => ?_)
              refine lv_goto (tgt := 41) hx hb dX10_nearestAncestor_95 (by decide) ?_
              exact ih41 v5_41 t92 ex41 H locs ls hf hk41 (hP.sub [2, 3, 0, 1] rfl) (hD.sub [2, 3, 0, 1] (by decide) rfl) hS (lv_sub hl [2, 3, 1, 0] rfl)
            · have hf := itf h9 hf
              refine lv_aload_n hx hb dX10_nearestAncestor_66 rfl (lv_at hl 0 rfl) ?_
              refine va_get (D := (dC, dI)) (ci := 10) (v := .ref (ad 9)) (C := RX10) (T := TX10) (N := 37) hx hb htg inX10 hown hE.1 hP 2 rfl rfl 8 (by decide) (htg _ tw1390) (fun _ h9 => h9) rfl dX10_nearestAncestor_67 ?_
              refine lv_iload hx hb dX10_nearestAncestor_70 (lv_at hl 3 rfl) ?_
              obtain ⟨h9, hf⟩ := gd_s hf
              refine va_iald hx hb hE.1 hP 0 0 rfl rfl h9 dX10_nearestAncestor_72 ?_
              refine lv_aload_n hx hb dX10_nearestAncestor_73 rfl (lv_at hl 0 rfl) ?_
              refine va_get (D := (dC, dI)) (ci := 10) (v := .ref (ad 9)) (C := RX10) (T := TX10) (N := 37) hx hb htg inX10 hown hE.1 hP 2 rfl rfl 8 (by decide) (htg _ tw1390) (fun _ h9 => h9) rfl dX10_nearestAncestor_74 ?_
              refine lv_iload hx hb dX10_nearestAncestor_77 (lv_at hl 2 rfl) ?_
              obtain ⟨h9, hf⟩ := gd_s hf
              refine va_iald hx hb hE.1 hP 0 0 rfl rfl h9 dX10_nearestAncestor_79 ?_
              refine lv_icmp_le (tgt := 88) hx hb dX10_nearestAncestor_80 (by decide) (fun h9 => ?_) (fun h9 => ?_)
              · have hf := itt h9 hf
                refine lv_iload hx hb dX10_nearestAncestor_88 (lv_at hl 2 rfl) ?_
                refine lv_istore (lv' := [(4, .int v4_41), (0, .ref (ad 0)), (3, .int t34), (5, .int v5_41)]) hx hb dX10_nearestAncestor_90 hl (by decide) rfl (fun ls hl => ?_)
                obtain ⟨t92, h9⟩ : ∃ z : Int32, z = (v5_41 + (1 : Int32)) := ⟨_, rfl⟩
                have hf := lb_e h9 hf
                refine lv_iinc (v := t92) (lv' := [(5, .int t92), (4, .int v4_41), (0, .ref (ad 0)), (3, .int t34)]) hx hb dX10_nearestAncestor_92 hl (k := 3) rfl (by rw [h9]; rfl) (by decide) rfl (fun ls hl => ?_)
                refine lv_goto (tgt := 41) hx hb dX10_nearestAncestor_95 (by decide) ?_
                exact ih41 v4_41 t92 ex41 H locs ls hf hk41 (hP.sub [2, 3, 0, 1] rfl) (hD.sub [2, 3, 0, 1] (by decide) rfl) hS (lv_sub hl [2, 3, 1, 0] rfl)
              · have hf := itf h9 hf
                refine lv_iload hx hb dX10_nearestAncestor_83 (lv_at hl 3 rfl) ?_
                refine lv_goto (tgt := 90) hx hb dX10_nearestAncestor_85 (by decide) ?_
                refine lv_istore (lv' := [(4, .int v5_41), (0, .ref (ad 0)), (3, .int t34), (5, .int v5_41)]) hx hb dX10_nearestAncestor_90 hl (by decide) rfl (fun ls hl => ?_)
                obtain ⟨t92, h9⟩ : ∃ z : Int32, z = (v5_41 + (1 : Int32)) := ⟨_, rfl⟩
                have hf := lb_e h9 hf
                refine lv_iinc (v := t92) (lv' := [(5, .int t92), (4, .int v5_41), (0, .ref (ad 0)), (3, .int t34)]) hx hb dX10_nearestAncestor_92 hl (k := 3) rfl (by rw [h9]; rfl) (by decide) rfl (fun ls hl => ?_)
                refine lv_goto (tgt := 41) hx hb dX10_nearestAncestor_95 (by decide) ?_
                exact ih41 v5_41 t92 ex41 H locs ls hf hk41 (hP.sub [2, 3, 0, 1] rfl) (hD.sub [2, 3, 0, 1] (by decide) rfl) hS (lv_sub hl [2, 3, 1, 0] rfl)
    obtain ⟨ex, h9, hf⟩ := ob_s hf
    exact K41 FU (-1 : Int32) (0 : Int32) ex H locs ls h9 hf (hP.sub [2, 3, 0, 1] rfl) (hD.sub [2, 3, 0, 1] (by decide) rfl) hS (lv_sub hl [3, 2, 1, 0] rfl)
  · have hf := ctf (bI_0 h9) hf
    refine lv_iconst (v := 0) hx hb dX10_nearestAncestor_9 (by decide) ?_
    cases hf
    exact g_iret S hr hlocks (hP.sub [2, 3, 0, 1] rfl) (hD.sub [2, 3, 0, 1] (by decide) rfl) hS dX10_nearestAncestor_10
def p10_collapse_J108 (v3_108 : Int32) (m_thrown_108 : Int32) (m_further_108 : Nat → Int32) (m_ways_108 : Nat → Int32) : Option (Int32 × (Nat → Int32) × Int32 × (Nat → Int32)) := some (v3_108, m_further_108, m_thrown_108, m_ways_108)
def p10_collapse_L69_B (m_ways_64 : Nat → Int32) (k69 : Int32 → Int32 → Option (Int32)) (v3_69 : Int32) (v4_69 : Int32) : Option (Int32) := (if (16 : Int32) ≤ v4_69 then some v3_69 else gd v4_69 16 ((if (m_ways_64 v4_69.toNatClampNeg) ≤ (0 : Int32) then lb (v3_69 + (0 : Int32)) (fun t101 => lb (v4_69 + (1 : Int32)) (fun t102 => (k69 t101 t102))) else gd v4_69 16 (lb (v3_69 + ((m_ways_64 v4_69.toNatClampNeg) - (1 : Int32))) (fun t101 => lb (v4_69 + (1 : Int32)) (fun t102 => (k69 t101 t102)))))))
def p10_collapse_L69 (m_ways_64 : Nat → Int32) : Nat → Int32 → Int32 → Option (Int32)
  | 0, _, _ => none
  | n+1, v3_69, v4_69 => p10_collapse_L69_B m_ways_64 (p10_collapse_L69 m_ways_64 n) v3_69 v4_69
def p10_collapse_J64 (m_thrown_64 : Int32) (m_further_64 : Nat → Int32) (m_ways_64 : Nat → Int32) : Option (Int32 × (Nat → Int32) × Int32 × (Nat → Int32)) := (ob (p10_collapse_L69 m_ways_64 FU (0 : Int32) (0 : Int32)) (fun v3_x69 => p10_collapse_J108 v3_x69 m_thrown_64 m_further_64 m_ways_64))
def p10_collapse_L49_B (m_fam : Nat → Int64) (v2 : Int32) (k49 : Int32 → (Nat → Int32) → (Nat → Int32) → Option ((Nat → Int32) × (Nat → Int32))) (v3_49 : Int32) (m_further_49 : Nat → Int32) (m_ways_49 : Nat → Int32) : Option ((Nat → Int32) × (Nat → Int32)) := (if v2 ≤ v3_49 then some (m_further_49, m_ways_49) else ob (p10_stepUp m_fam m_further_49 m_ways_49) (uc2 fun m_further_55 m_ways_55 => lb (v3_49 + (1 : Int32)) (fun t58 => (k49 t58 m_further_55 m_ways_55))))
def p10_collapse_L49 (m_fam : Nat → Int64) (v2 : Int32) : Nat → Int32 → (Nat → Int32) → (Nat → Int32) → Option ((Nat → Int32) × (Nat → Int32))
  | 0, _, _, _ => none
  | n+1, v3_49, m_further_49, m_ways_49 => p10_collapse_L49_B m_fam v2 (p10_collapse_L49 m_fam v2 n) v3_49 m_further_49 m_ways_49
def p10_collapse_J33 (m_fam : Nat → Int64) (m_further : Nat → Int32) (m_ways : Nat → Int32) (v1 : Int32) (v2 : Int32) (m_thrown_33 : Int32) : Option (Int32 × (Nat → Int32) × Int32 × (Nat → Int32)) := (if m_thrown_33 = (0 : Int32) then ob (p10_beginWays m_ways v1) (fun m_ways_44 => (ob (p10_collapse_L49 m_fam v2 FU (0 : Int32) m_further m_ways_44) (uc2 fun m_further_x49 m_ways_x49 => p10_collapse_J64 m_thrown_33 m_further_x49 m_ways_x49))) else some ((0 : Int32), m_further, m_thrown_33, m_ways))
def p10_collapse (m_fam : Nat → Int64) (m_further : Nat → Int32) (m_ways : Nat → Int32) (v1 : Int32) (v2 : Int32) : Option (Int32 × (Nat → Int32) × Int32 × (Nat → Int32)) := ob (p10_isPerson m_fam v1) (fun r3 => (cond r3 (cond ((p10_inRange v2.toInt64 (1 : Int64) (15 : Int64))) (p10_collapse_J33 m_fam m_further m_ways v1 v2 (0 : Int32)) (p10_collapse_J33 m_fam m_further m_ways v1 v2 (2 : Int32))) (p10_collapse_J33 m_fam m_further m_ways v1 v2 (1 : Int32))))
set_option maxHeartbeats 4000000 in
set_option maxRecDepth 100000 in
theorem c_X10_collapse (ad : Nat → Nat) (a_m_fam : Nat) (m_undoCount : Int32) (m_thrown : Int32) (m_hasSnapshot : Bool) (m_rows : Int32) (m_lineLength : Int32) (m_formattedLength : Int32) (m_bufferLength : Int32) (m_limit : Int32) (m_next : Int32) (m_beginsAt : Int32) (m_token : Int32) (m_error : Int32) (m_errorAt : Int32) (m_errorPosition : Int32) (m_nested : Int32) (m_codeCount : Int32) (m_fam : Nat → Int64) (m_further : Nat → Int32) (m_ways : Nat → Int32) (v1 : Int32) (v2 : Int32) (r9 : Int32) (m_further_9 : Nat → Int32) (m_thrown_9 : Int32) (m_ways_9 : Nat → Int32) (hf : p10_collapse m_fam m_further m_ways v1 v2 = some (r9, m_further_9, m_thrown_9, m_ways_9)) : gM l dC dI cI cJ cZ yX10_collapse cX10_collapse 5 (some .int) (3) (65) [.ref (ad 0), .int v1, .int v2] [(ad 0, .inr (10, oM ad m_undoCount m_thrown m_hasSnapshot a_m_fam m_rows m_lineLength m_formattedLength m_bufferLength m_limit m_next m_beginsAt m_token m_error m_errorAt m_errorPosition m_nested m_codeCount)), (a_m_fam, .inl (cJ, 130, .inr (.inl m_fam))), ((ad 21), .inl (cI, 16, .inl m_further)), ((ad 20), .inl (cI, 16, .inl m_ways))] [(ad 0, .inr (10, oM ad m_undoCount m_thrown_9 m_hasSnapshot a_m_fam m_rows m_lineLength m_formattedLength m_bufferLength m_limit m_next m_beginsAt m_token m_error m_errorAt m_errorPosition m_nested m_codeCount)), (a_m_fam, .inl (cJ, 130, .inr (.inl m_fam))), ((ad 21), .inl (cI, 16, .inl m_further_9)), ((ad 20), .inl (cI, 16, .inl m_ways_9))] (some (.int r9)) := by
  refine g_start (own := RX10) (by decide +kernel) rfl (Nat.le_of_ble_eq_true rfl) ?_
  intro p e s m below meth c A ls S hr hlocks hE hP hD hS hA hl hin
  have hx := S.1
  have hb := S.2.1
  have hml := S.2.2.1
  have hown := S.2.2.2.1
  have htg : ∀ z ∈ gw, z.before ([.ref (ad 0), .int v1, .int v2] : List Value).toArray s = true := fun w h => S.2.2.2.2 w (List.mem_cons_of_mem _ h)
  have hl : lv_has ls 5 [(0, .ref (ad 0)), (1, .int v1), (2, .int v2)] := hl
  have hS0 := hS
  obtain ⟨H, hH⟩ : ∃ H, H = s.heap := ⟨_, rfl⟩
  obtain ⟨locs, hlc⟩ : ∃ locs : List Loc, locs = [] := ⟨_, rfl⟩
  have hS : va_S A s.heap H locs := by rw [hH, hlc]; exact hS0
  have hP : va_P (dC, dI) vwCl [(ad 0, .inr (10, oM ad m_undoCount m_thrown m_hasSnapshot a_m_fam m_rows m_lineLength m_formattedLength m_bufferLength m_limit m_next m_beginsAt m_token m_error m_errorAt m_errorPosition m_nested m_codeCount)), (a_m_fam, .inl (cJ, 130, .inr (.inl m_fam))), ((ad 21), .inl (cI, 16, .inl m_further)), ((ad 20), .inl (cI, 16, .inl m_ways))] H := by rw [hH]; exact hP
  suffices hgo : W p l e ({ frames := 3, cells := 0, slots := 0, locals := 65 }) s m ([.ref (ad 0), .int v1, .int v2] : List Value).toArray below meth c H locs 0 0 (MQ below (gQ dC dI (some (.int r9)) A [(ad 0, .inr (10, oM ad m_undoCount m_thrown_9 m_hasSnapshot a_m_fam m_rows m_lineLength m_formattedLength m_bufferLength m_limit m_next m_beginsAt m_token m_error m_errorAt m_errorPosition m_nested m_codeCount)), (a_m_fam, .inl (cJ, 130, .inr (.inl m_fam))), ((ad 21), .inl (cI, 16, .inl m_further_9)), ((ad 20), .inl (cI, 16, .inl m_ways_9))]) ([.ref (ad 0), .int v1, .int v2] : List Value).toArray s 0 0 A) (F0 m 0 ls []) by rw [hH, hlc] at hgo; exact hgo
  rw [p10_collapse] at hf
  have J108 : ∀ (v3_108 : Int32) (m_thrown_108 : Int32) (m_further_108 : Nat → Int32) (m_ways_108 : Nat → Int32) (H : Heap) (locs : List Loc) (ls : Array Slot), p10_collapse_J108 v3_108 m_thrown_108 m_further_108 m_ways_108 = some (r9, m_further_9, m_thrown_9, m_ways_9) → va_P (dC, dI) vwCl [(ad 0, .inr (10, oM ad m_undoCount m_thrown_108 m_hasSnapshot a_m_fam m_rows m_lineLength m_formattedLength m_bufferLength m_limit m_next m_beginsAt m_token m_error m_errorAt m_errorPosition m_nested m_codeCount)), (a_m_fam, .inl (cJ, 130, .inr (.inl m_fam))), ((ad 21), .inl (cI, 16, .inl m_further_108)), ((ad 20), .inl (cI, 16, .inl m_ways_108))] H → va_D A [(ad 0, .inr (10, oM ad m_undoCount m_thrown_108 m_hasSnapshot a_m_fam m_rows m_lineLength m_formattedLength m_bufferLength m_limit m_next m_beginsAt m_token m_error m_errorAt m_errorPosition m_nested m_codeCount)), (a_m_fam, .inl (cJ, 130, .inr (.inl m_fam))), ((ad 21), .inl (cI, 16, .inl m_further_108)), ((ad 20), .inl (cI, 16, .inl m_ways_108))] → va_S A s.heap H locs → lv_has ls 5 [(3, .int v3_108)] → W p l e ({ frames := 3, cells := 0, slots := 0, locals := 65 }) s m ([.ref (ad 0), .int v1, .int v2] : List Value).toArray below meth c H locs 0 0 (MQ below (gQ dC dI (some (.int r9)) A [(ad 0, .inr (10, oM ad m_undoCount m_thrown_9 m_hasSnapshot a_m_fam m_rows m_lineLength m_formattedLength m_bufferLength m_limit m_next m_beginsAt m_token m_error m_errorAt m_errorPosition m_nested m_codeCount)), (a_m_fam, .inl (cJ, 130, .inr (.inl m_fam))), ((ad 21), .inl (cI, 16, .inl m_further_9)), ((ad 20), .inl (cI, 16, .inl m_ways_9))]) ([.ref (ad 0), .int v1, .int v2] : List Value).toArray s 0 0 A) (F0 m 108 ls []) := by
    intro v3_108 m_thrown_108 m_further_108 m_ways_108 H locs ls hf hP hD hS hl
    rw [p10_collapse_J108] at hf
    refine lv_iload_n hx hb dX10_collapse_108 rfl (lv_at hl 0 rfl) ?_
    cases hf
    exact g_iret S hr hlocks hP hD hS dX10_collapse_109
  have J64 : ∀ (m_thrown_64 : Int32) (m_further_64 : Nat → Int32) (m_ways_64 : Nat → Int32) (H : Heap) (locs : List Loc) (ls : Array Slot), p10_collapse_J64 m_thrown_64 m_further_64 m_ways_64 = some (r9, m_further_9, m_thrown_9, m_ways_9) → va_P (dC, dI) vwCl [(ad 0, .inr (10, oM ad m_undoCount m_thrown_64 m_hasSnapshot a_m_fam m_rows m_lineLength m_formattedLength m_bufferLength m_limit m_next m_beginsAt m_token m_error m_errorAt m_errorPosition m_nested m_codeCount)), (a_m_fam, .inl (cJ, 130, .inr (.inl m_fam))), ((ad 21), .inl (cI, 16, .inl m_further_64)), ((ad 20), .inl (cI, 16, .inl m_ways_64))] H → va_D A [(ad 0, .inr (10, oM ad m_undoCount m_thrown_64 m_hasSnapshot a_m_fam m_rows m_lineLength m_formattedLength m_bufferLength m_limit m_next m_beginsAt m_token m_error m_errorAt m_errorPosition m_nested m_codeCount)), (a_m_fam, .inl (cJ, 130, .inr (.inl m_fam))), ((ad 21), .inl (cI, 16, .inl m_further_64)), ((ad 20), .inl (cI, 16, .inl m_ways_64))] → va_S A s.heap H locs → lv_has ls 5 [(0, .ref (ad 0))] → W p l e ({ frames := 3, cells := 0, slots := 0, locals := 65 }) s m ([.ref (ad 0), .int v1, .int v2] : List Value).toArray below meth c H locs 0 0 (MQ below (gQ dC dI (some (.int r9)) A [(ad 0, .inr (10, oM ad m_undoCount m_thrown_9 m_hasSnapshot a_m_fam m_rows m_lineLength m_formattedLength m_bufferLength m_limit m_next m_beginsAt m_token m_error m_errorAt m_errorPosition m_nested m_codeCount)), (a_m_fam, .inl (cJ, 130, .inr (.inl m_fam))), ((ad 21), .inl (cI, 16, .inl m_further_9)), ((ad 20), .inl (cI, 16, .inl m_ways_9))]) ([.ref (ad 0), .int v1, .int v2] : List Value).toArray s 0 0 A) (F0 m 64 ls []) := by
    intro m_thrown_64 m_further_64 m_ways_64 H locs ls hf hP hD hS hl
    rw [p10_collapse_J64] at hf
    refine lv_iconst (v := 0) hx hb dX10_collapse_64 (by decide) ?_
    refine lv_istore_n (lv' := [(3, .int (0 : Int32)), (0, .ref (ad 0))]) hx hb dX10_collapse_65 rfl hl (by decide) rfl (fun ls hl => ?_)
    refine lv_iconst (v := 0) hx hb dX10_collapse_66 (by decide) ?_
    refine lv_istore (lv' := [(4, .int (0 : Int32)), (3, .int (0 : Int32)), (0, .ref (ad 0))]) hx hb dX10_collapse_67 hl (by decide) rfl (fun ls hl => ?_)
    have K69 : ∀ (n69 : Nat) (v3_69 : Int32) (v4_69 : Int32) (ex69 : Int32) (H : Heap) (locs : List Loc) (ls : Array Slot), p10_collapse_L69 m_ways_64 n69 v3_69 v4_69 = some ex69 → (fun v3_x69 => p10_collapse_J108 v3_x69 m_thrown_64 m_further_64 m_ways_64) ex69 = some (r9, m_further_9, m_thrown_9, m_ways_9) → va_P (dC, dI) vwCl [(ad 0, .inr (10, oM ad m_undoCount m_thrown_64 m_hasSnapshot a_m_fam m_rows m_lineLength m_formattedLength m_bufferLength m_limit m_next m_beginsAt m_token m_error m_errorAt m_errorPosition m_nested m_codeCount)), (a_m_fam, .inl (cJ, 130, .inr (.inl m_fam))), ((ad 21), .inl (cI, 16, .inl m_further_64)), ((ad 20), .inl (cI, 16, .inl m_ways_64))] H → va_D A [(ad 0, .inr (10, oM ad m_undoCount m_thrown_64 m_hasSnapshot a_m_fam m_rows m_lineLength m_formattedLength m_bufferLength m_limit m_next m_beginsAt m_token m_error m_errorAt m_errorPosition m_nested m_codeCount)), (a_m_fam, .inl (cJ, 130, .inr (.inl m_fam))), ((ad 21), .inl (cI, 16, .inl m_further_64)), ((ad 20), .inl (cI, 16, .inl m_ways_64))] → va_S A s.heap H locs → lv_has ls 5 [(0, .ref (ad 0)), (3, .int v3_69), (4, .int v4_69)] → W p l e ({ frames := 3, cells := 0, slots := 0, locals := 65 }) s m ([.ref (ad 0), .int v1, .int v2] : List Value).toArray below meth c H locs 0 0 (MQ below (gQ dC dI (some (.int r9)) A [(ad 0, .inr (10, oM ad m_undoCount m_thrown_9 m_hasSnapshot a_m_fam m_rows m_lineLength m_formattedLength m_bufferLength m_limit m_next m_beginsAt m_token m_error m_errorAt m_errorPosition m_nested m_codeCount)), (a_m_fam, .inl (cJ, 130, .inr (.inl m_fam))), ((ad 21), .inl (cI, 16, .inl m_further_9)), ((ad 20), .inl (cI, 16, .inl m_ways_9))]) ([.ref (ad 0), .int v1, .int v2] : List Value).toArray s 0 0 A) (F0 m 69 ls []) := by
      intro n69
      induction n69 with
      | zero => intro v3_69 v4_69 ex69 H locs ls hf; rw [p10_collapse_L69] at hf; cases hf
      | succ n69 ih69 =>
        intro v3_69 v4_69 ex69 H locs ls hf hk69 hP hD hS hl
        rw [p10_collapse_L69, p10_collapse_L69_B] at hf
        refine lv_iload hx hb dX10_collapse_69 (lv_at hl 2 rfl) ?_
        refine lv_bipush (v := 16) hx hb dX10_collapse_71 (by decide) ?_
        refine lv_icmp_ge (tgt := 108) hx hb dX10_collapse_73 (by decide) (fun h9 => ?_) (fun h9 => ?_)
        · have hf := itt h9 hf
          cases hf
          have hf := hk69
          exact J108 v3_69 m_thrown_64 m_further_64 m_ways_64 H locs ls hf hP hD hS (lv_sub hl [1] rfl)
        · have hf := itf h9 hf
          refine lv_iload_n hx hb dX10_collapse_76 rfl (lv_at hl 1 rfl) ?_
          refine lv_aload_n hx hb dX10_collapse_77 rfl (lv_at hl 0 rfl) ?_
          refine va_get (D := (dC, dI)) (ci := 10) (v := .ref (ad 20)) (C := RX10) (T := TX10) (N := 37) hx hb htg inX10 hown hE.1 hP 0 rfl rfl 19 (by decide) (htg _ tw1401) (fun _ h9 => h9) rfl dX10_collapse_78 ?_
          refine lv_iload hx hb dX10_collapse_81 (lv_at hl 2 rfl) ?_
          obtain ⟨h9, hf⟩ := gd_s hf
          refine va_iald hx hb hE.1 hP 3 0 rfl rfl h9 dX10_collapse_83 ?_
          refine lv_if_le (tgt := 99) hx hb dX10_collapse_84 (by decide) (fun h9 => ?_) (fun h9 => ?_)
          · have hf := itt h9 hf
            refine lv_iconst (v := 0) hx hb dX10_collapse_99 (by decide) ?_
            refine lv_iadd hx hb dX10_collapse_100 ?_
            refine lv_topi (fun t101 h9 => ?_)
            have hf := lb_e h9 hf
            refine lv_istore_n (lv' := [(3, .int t101), (0, .ref (ad 0)), (4, .int v4_69)]) hx hb dX10_collapse_101 rfl hl (by decide) rfl (fun ls hl => ?_)
            obtain ⟨t102, h9⟩ : ∃ z : Int32, z = (v4_69 + (1 : Int32)) := ⟨_, rfl⟩
            have hf := lb_e h9 hf
            refine lv_iinc (v := t102) (lv' := [(4, .int t102), (3, .int t101), (0, .ref (ad 0))]) hx hb dX10_collapse_102 hl (k := 2) rfl (by rw [h9]; rfl) (by decide) rfl (fun ls hl => ?_)
            refine lv_goto (tgt := 69) hx hb dX10_collapse_105 (by decide) ?_
            exact ih69 t101 t102 ex69 H locs ls hf hk69 hP hD hS (lv_sub hl [2, 1, 0] rfl)
          · have hf := itf h9 hf
            refine lv_aload_n hx hb dX10_collapse_87 rfl (lv_at hl 0 rfl) ?_
            refine va_get (D := (dC, dI)) (ci := 10) (v := .ref (ad 20)) (C := RX10) (T := TX10) (N := 37) hx hb htg inX10 hown hE.1 hP 0 rfl rfl 19 (by decide) (htg _ tw1401) (fun _ h9 => h9) rfl dX10_collapse_88 ?_
            refine lv_iload hx hb dX10_collapse_91 (lv_at hl 2 rfl) ?_
            obtain ⟨h9, hf⟩ := gd_s hf
            refine va_iald hx hb hE.1 hP 3 0 rfl rfl h9 dX10_collapse_93 ?_
            refine lv_iconst (v := 1) hx hb dX10_collapse_94 (by decide) ?_
            refine lv_isub hx hb dX10_collapse_95 ?_
            refine lv_goto (tgt := 100) hx hb dX10_collapse_96 (by decide) ?_
            refine lv_iadd hx hb dX10_collapse_100 ?_
            refine lv_topi (fun t101 h9 => ?_)
            have hf := lb_e h9 hf
            refine lv_istore_n (lv' := [(3, .int t101), (0, .ref (ad 0)), (4, .int v4_69)]) hx hb dX10_collapse_101 rfl hl (by decide) rfl (fun ls hl => ?_)
            obtain ⟨t102, h9⟩ : ∃ z : Int32, z = (v4_69 + (1 : Int32)) := ⟨_, rfl⟩
            have hf := lb_e h9 hf
            refine lv_iinc (v := t102) (lv' := [(4, .int t102), (3, .int t101), (0, .ref (ad 0))]) hx hb dX10_collapse_102 hl (k := 2) rfl (by rw [h9]; rfl) (by decide) rfl (fun ls hl => ?_)
            refine lv_goto (tgt := 69) hx hb dX10_collapse_105 (by decide) ?_
            exact ih69 t101 t102 ex69 H locs ls hf hk69 hP hD hS (lv_sub hl [2, 1, 0] rfl)
    obtain ⟨ex, h9, hf⟩ := ob_s hf
    exact K69 FU (0 : Int32) (0 : Int32) ex H locs ls h9 hf hP hD hS (lv_sub hl [2, 1, 0] rfl)
  have J33 : ∀ (m_thrown_33 : Int32) (H : Heap) (locs : List Loc) (ls : Array Slot), p10_collapse_J33 m_fam m_further m_ways v1 v2 m_thrown_33 = some (r9, m_further_9, m_thrown_9, m_ways_9) → va_P (dC, dI) vwCl [(ad 0, .inr (10, oM ad m_undoCount m_thrown_33 m_hasSnapshot a_m_fam m_rows m_lineLength m_formattedLength m_bufferLength m_limit m_next m_beginsAt m_token m_error m_errorAt m_errorPosition m_nested m_codeCount)), (a_m_fam, .inl (cJ, 130, .inr (.inl m_fam))), ((ad 21), .inl (cI, 16, .inl m_further)), ((ad 20), .inl (cI, 16, .inl m_ways))] H → va_D A [(ad 0, .inr (10, oM ad m_undoCount m_thrown_33 m_hasSnapshot a_m_fam m_rows m_lineLength m_formattedLength m_bufferLength m_limit m_next m_beginsAt m_token m_error m_errorAt m_errorPosition m_nested m_codeCount)), (a_m_fam, .inl (cJ, 130, .inr (.inl m_fam))), ((ad 21), .inl (cI, 16, .inl m_further)), ((ad 20), .inl (cI, 16, .inl m_ways))] → va_S A s.heap H locs → lv_has ls 5 [(0, .ref (ad 0)), (1, .int v1), (2, .int v2)] → W p l e ({ frames := 3, cells := 0, slots := 0, locals := 65 }) s m ([.ref (ad 0), .int v1, .int v2] : List Value).toArray below meth c H locs 0 0 (MQ below (gQ dC dI (some (.int r9)) A [(ad 0, .inr (10, oM ad m_undoCount m_thrown_9 m_hasSnapshot a_m_fam m_rows m_lineLength m_formattedLength m_bufferLength m_limit m_next m_beginsAt m_token m_error m_errorAt m_errorPosition m_nested m_codeCount)), (a_m_fam, .inl (cJ, 130, .inr (.inl m_fam))), ((ad 21), .inl (cI, 16, .inl m_further_9)), ((ad 20), .inl (cI, 16, .inl m_ways_9))]) ([.ref (ad 0), .int v1, .int v2] : List Value).toArray s 0 0 A) (F0 m 33 ls []) := by
    intro m_thrown_33 H locs ls hf hP hD hS hl
    rw [p10_collapse_J33] at hf
    refine lv_aload_n hx hb dX10_collapse_33 rfl (lv_at hl 0 rfl) ?_
    refine va_get (D := (dC, dI)) (ci := 10) (v := .int m_thrown_33) (C := RX10) (T := TX10) (N := 37) hx hb htg inX10 hown hE.1 hP 0 rfl rfl 5 (by decide) (htg _ tw1387) (fun _ h9 => h9) rfl dX10_collapse_34 ?_
    refine lv_if_eq (tgt := 42) hx hb dX10_collapse_37 (by decide) (fun h9 => ?_) (fun h9 => ?_)
    · have hf := itt h9 hf
      refine lv_aload_n hx hb dX10_collapse_42 rfl (lv_at hl 0 rfl) ?_
      refine lv_iload_n hx hb dX10_collapse_43 rfl (lv_at hl 1 rfl) ?_
      obtain ⟨m_ways_44, h9, hf⟩ := ob_s hf
      refine gcV (index := 281) S hE (c_X10_beginWays ad a_m_fam m_undoCount m_thrown_33 m_hasSnapshot m_rows m_lineLength m_formattedLength m_bufferLength m_limit m_next m_beginsAt m_token m_error m_errorAt m_errorPosition m_nested m_codeCount m_ways v1 m_ways_44 h9) mX10_beginWays tw1695 ⟨Nat.le_of_ble_eq_true rfl, Nat.le_of_ble_eq_true rfl⟩ hP hD hS hA ⟨Nat.zero_le _, Nat.zero_le _⟩ 0 10 rfl rfl rfl (wr := [(a_m_fam, .inl (cJ, 130, .inr (.inl m_fam))), ((ad 21), .inl (cI, 16, .inl m_further))]) [0, 3] [1, 2] rfl rfl rfl rfl (by decide) (As := [.int v1]) (rest := []) rfl hl.1 rfl (Nat.le_of_ble_eq_true rfl) dX10_collapse_44 (fun H locs hP hD hS => ?_)
      refine W.eq (g2 := F0 m 47 ls []) rfl ?_
      have hP : va_P (dC, dI) vwCl [(a_m_fam, .inl (cJ, 130, .inr (.inl m_fam))), ((ad 21), .inl (cI, 16, .inl m_further)), (ad 0, .inr (10, oM ad m_undoCount m_thrown_33 m_hasSnapshot a_m_fam m_rows m_lineLength m_formattedLength m_bufferLength m_limit m_next m_beginsAt m_token m_error m_errorAt m_errorPosition m_nested m_codeCount)), ((ad 20), .inl (cI, 16, .inl m_ways_44))] H := hP
      have hD : va_D A [(a_m_fam, .inl (cJ, 130, .inr (.inl m_fam))), ((ad 21), .inl (cI, 16, .inl m_further)), (ad 0, .inr (10, oM ad m_undoCount m_thrown_33 m_hasSnapshot a_m_fam m_rows m_lineLength m_formattedLength m_bufferLength m_limit m_next m_beginsAt m_token m_error m_errorAt m_errorPosition m_nested m_codeCount)), ((ad 20), .inl (cI, 16, .inl m_ways_44))] := hD
      refine lv_iconst (v := 0) hx hb dX10_collapse_47 (by decide) ?_
      refine lv_istore_n (lv' := [(3, .int (0 : Int32)), (0, .ref (ad 0)), (1, .int v1), (2, .int v2)]) hx hb dX10_collapse_48 rfl hl (by decide) rfl (fun ls hl => ?_)
      have K49 : ∀ (n49 : Nat) (v3_49 : Int32) (m_further_49 : Nat → Int32) (m_ways_49 : Nat → Int32) (ex49 : (Nat → Int32) × (Nat → Int32)) (H : Heap) (locs : List Loc) (ls : Array Slot), p10_collapse_L49 m_fam v2 n49 v3_49 m_further_49 m_ways_49 = some ex49 → (uc2 fun m_further_x49 m_ways_x49 => p10_collapse_J64 m_thrown_33 m_further_x49 m_ways_x49) ex49 = some (r9, m_further_9, m_thrown_9, m_ways_9) → va_P (dC, dI) vwCl [(ad 0, .inr (10, oM ad m_undoCount m_thrown_33 m_hasSnapshot a_m_fam m_rows m_lineLength m_formattedLength m_bufferLength m_limit m_next m_beginsAt m_token m_error m_errorAt m_errorPosition m_nested m_codeCount)), (a_m_fam, .inl (cJ, 130, .inr (.inl m_fam))), ((ad 21), .inl (cI, 16, .inl m_further_49)), ((ad 20), .inl (cI, 16, .inl m_ways_49))] H → va_D A [(ad 0, .inr (10, oM ad m_undoCount m_thrown_33 m_hasSnapshot a_m_fam m_rows m_lineLength m_formattedLength m_bufferLength m_limit m_next m_beginsAt m_token m_error m_errorAt m_errorPosition m_nested m_codeCount)), (a_m_fam, .inl (cJ, 130, .inr (.inl m_fam))), ((ad 21), .inl (cI, 16, .inl m_further_49)), ((ad 20), .inl (cI, 16, .inl m_ways_49))] → va_S A s.heap H locs → lv_has ls 5 [(0, .ref (ad 0)), (2, .int v2), (3, .int v3_49)] → W p l e ({ frames := 3, cells := 0, slots := 0, locals := 65 }) s m ([.ref (ad 0), .int v1, .int v2] : List Value).toArray below meth c H locs 0 0 (MQ below (gQ dC dI (some (.int r9)) A [(ad 0, .inr (10, oM ad m_undoCount m_thrown_9 m_hasSnapshot a_m_fam m_rows m_lineLength m_formattedLength m_bufferLength m_limit m_next m_beginsAt m_token m_error m_errorAt m_errorPosition m_nested m_codeCount)), (a_m_fam, .inl (cJ, 130, .inr (.inl m_fam))), ((ad 21), .inl (cI, 16, .inl m_further_9)), ((ad 20), .inl (cI, 16, .inl m_ways_9))]) ([.ref (ad 0), .int v1, .int v2] : List Value).toArray s 0 0 A) (F0 m 49 ls []) := by
        intro n49
        induction n49 with
        | zero => intro v3_49 m_further_49 m_ways_49 ex49 H locs ls hf; rw [p10_collapse_L49] at hf; cases hf
        | succ n49 ih49 =>
          intro v3_49 m_further_49 m_ways_49 ex49 H locs ls hf hk49 hP hD hS hl
          rw [p10_collapse_L49, p10_collapse_L49_B] at hf
          refine lv_iload_n hx hb dX10_collapse_49 rfl (lv_at hl 2 rfl) ?_
          refine lv_iload_n hx hb dX10_collapse_50 rfl (lv_at hl 1 rfl) ?_
          refine lv_icmp_ge (tgt := 64) hx hb dX10_collapse_51 (by decide) (fun h9 => ?_) (fun h9 => ?_)
          · have hf := itt h9 hf
            cases hf
            have hf := hk49
            have hf := uc2_e hf
            exact J64 m_thrown_33 m_further_49 m_ways_49 H locs ls hf hP hD hS (lv_sub hl [0] rfl)
          · have hf := itf h9 hf
            refine lv_aload_n hx hb dX10_collapse_54 rfl (lv_at hl 0 rfl) ?_
            obtain ⟨⟨m_further_55, m_ways_55⟩, h9, hf⟩ := ob_s hf
            have hf := uc2_e hf
            refine gcV (index := 284) S hE (c_X10_stepUp ad a_m_fam m_undoCount m_thrown_33 m_hasSnapshot m_rows m_lineLength m_formattedLength m_bufferLength m_limit m_next m_beginsAt m_token m_error m_errorAt m_errorPosition m_nested m_codeCount m_fam m_further_49 m_ways_49 m_further_55 m_ways_55 h9) mX10_stepUp tw1699 ⟨Nat.le_of_ble_eq_true rfl, Nat.le_of_ble_eq_true rfl⟩ hP hD hS hA ⟨Nat.zero_le _, Nat.zero_le _⟩ 0 10 rfl rfl rfl (wr := []) [0, 1, 2, 3] [] rfl rfl rfl rfl (by decide) (As := []) (rest := []) rfl hl.1 rfl (Nat.le_of_ble_eq_true rfl) dX10_collapse_55 (fun H locs hP hD hS => ?_)
            refine W.eq (g2 := F0 m 58 ls []) rfl ?_
            have hP : va_P (dC, dI) vwCl [(ad 0, .inr (10, oM ad m_undoCount m_thrown_33 m_hasSnapshot a_m_fam m_rows m_lineLength m_formattedLength m_bufferLength m_limit m_next m_beginsAt m_token m_error m_errorAt m_errorPosition m_nested m_codeCount)), (a_m_fam, .inl (cJ, 130, .inr (.inl m_fam))), ((ad 21), .inl (cI, 16, .inl m_further_55)), ((ad 20), .inl (cI, 16, .inl m_ways_55))] H := hP
            have hD : va_D A [(ad 0, .inr (10, oM ad m_undoCount m_thrown_33 m_hasSnapshot a_m_fam m_rows m_lineLength m_formattedLength m_bufferLength m_limit m_next m_beginsAt m_token m_error m_errorAt m_errorPosition m_nested m_codeCount)), (a_m_fam, .inl (cJ, 130, .inr (.inl m_fam))), ((ad 21), .inl (cI, 16, .inl m_further_55)), ((ad 20), .inl (cI, 16, .inl m_ways_55))] := hD
            obtain ⟨t58, h9⟩ : ∃ z : Int32, z = (v3_49 + (1 : Int32)) := ⟨_, rfl⟩
            have hf := lb_e h9 hf
            refine lv_iinc (v := t58) (lv' := [(3, .int t58), (0, .ref (ad 0)), (2, .int v2)]) hx hb dX10_collapse_58 hl (k := 2) rfl (by rw [h9]; rfl) (by decide) rfl (fun ls hl => ?_)
            refine lv_goto (tgt := 49) hx hb dX10_collapse_61 (by decide) ?_
            exact ih49 t58 m_further_55 m_ways_55 ex49 H locs ls hf hk49 hP hD hS (lv_sub hl [1, 2, 0] rfl)
      obtain ⟨ex, h9, hf⟩ := ob_s hf
      exact K49 FU (0 : Int32) m_further m_ways_44 ex H locs ls h9 hf (hP.sub [2, 0, 1, 3] rfl) (hD.sub [2, 0, 1, 3] (by decide) rfl) hS (lv_sub hl [1, 3, 0] rfl)
    · have hf := itf h9 hf
      refine lv_iconst (v := 0) hx hb dX10_collapse_40 (by decide) ?_
      cases hf
      exact g_iret S hr hlocks hP hD hS dX10_collapse_41
  refine lv_aload_n hx hb dX10_collapse_0 rfl (lv_at hl 0 rfl) ?_
  refine lv_aload_n hx hb dX10_collapse_1 rfl (lv_at hl 0 rfl) ?_
  refine lv_iload_n hx hb dX10_collapse_2 rfl (lv_at hl 1 rfl) ?_
  obtain ⟨r3, h9, hf⟩ := ob_s hf
  refine gcV (index := 234) S hE (c_X10_isPerson ad a_m_fam m_undoCount m_thrown m_hasSnapshot m_rows m_lineLength m_formattedLength m_bufferLength m_limit m_next m_beginsAt m_token m_error m_errorAt m_errorPosition m_nested m_codeCount m_fam v1 r3 h9) mX10_isPerson tw1576 ⟨Nat.le_of_ble_eq_true rfl, Nat.le_of_ble_eq_true rfl⟩ hP hD hS hA ⟨Nat.zero_le _, Nat.zero_le _⟩ 0 10 rfl rfl rfl (wr := [((ad 21), .inl (cI, 16, .inl m_further)), ((ad 20), .inl (cI, 16, .inl m_ways))]) [0, 1] [2, 3] rfl rfl rfl rfl (by decide) (As := [.int v1]) (rest := [.ref (ad 0)]) rfl hl.1 rfl (Nat.le_of_ble_eq_true rfl) dX10_collapse_3 (fun H locs hP hD hS => ?_)
  refine W.eq (g2 := F0 m 6 ls [.int (bI r3), .ref (ad 0)]) rfl ?_
  have hP : va_P (dC, dI) vwCl [((ad 21), .inl (cI, 16, .inl m_further)), ((ad 20), .inl (cI, 16, .inl m_ways)), (ad 0, .inr (10, oM ad m_undoCount m_thrown m_hasSnapshot a_m_fam m_rows m_lineLength m_formattedLength m_bufferLength m_limit m_next m_beginsAt m_token m_error m_errorAt m_errorPosition m_nested m_codeCount)), (a_m_fam, .inl (cJ, 130, .inr (.inl m_fam)))] H := hP
  have hD : va_D A [((ad 21), .inl (cI, 16, .inl m_further)), ((ad 20), .inl (cI, 16, .inl m_ways)), (ad 0, .inr (10, oM ad m_undoCount m_thrown m_hasSnapshot a_m_fam m_rows m_lineLength m_formattedLength m_bufferLength m_limit m_next m_beginsAt m_token m_error m_errorAt m_errorPosition m_nested m_codeCount)), (a_m_fam, .inl (cJ, 130, .inr (.inl m_fam)))] := hD
  refine lv_if_ne (tgt := 13) hx hb dX10_collapse_6 (by decide) (fun h9 => ?_) (fun h9 => ?_)
  · have hf := ctt (bI_1 h9) hf
    refine lv_iload_n hx hb dX10_collapse_13 rfl (lv_at hl 2 rfl) ?_
    refine lv_i2l hx hb dX10_collapse_14 rfl ?_
    refine lv_lconst (v := 1) hx hb dX10_collapse_15 (by decide) ?_
    refine lv_ldc2 (own := RX10) (v := 15) hx hb hown (htg _ tw1711) dX10_collapse_16 ?_
    refine gcS (index := 106) S hE (c_X10_inRange v2.toInt64 (1 : Int64) (15 : Int64) (p10_inRange v2.toInt64 (1 : Int64) (15 : Int64)) rfl) mX10_inRange tw1580 ⟨Nat.le_of_ble_eq_true rfl, Nat.le_of_ble_eq_true rfl⟩ hP hD hS hA ⟨Nat.zero_le _, Nat.zero_le _⟩ (wr := [((ad 21), .inl (cI, 16, .inl m_further)), ((ad 20), .inl (cI, 16, .inl m_ways)), (ad 0, .inr (10, oM ad m_undoCount m_thrown m_hasSnapshot a_m_fam m_rows m_lineLength m_formattedLength m_bufferLength m_limit m_next m_beginsAt m_token m_error m_errorAt m_errorPosition m_nested m_codeCount)), (a_m_fam, .inl (cJ, 130, .inr (.inl m_fam)))]) [] [0, 1, 2, 3] rfl rfl rfl rfl (by decide) (As := [.long v2.toInt64, .long (1 : Int64), .long (15 : Int64)]) (rest := [.ref (ad 0)]) rfl hl.1 rfl (Nat.le_of_ble_eq_true rfl) dX10_collapse_19 (fun H locs hP hD hS => ?_)
    refine W.eq (g2 := F0 m 22 ls [.int (bI (p10_inRange v2.toInt64 (1 : Int64) (15 : Int64))), .ref (ad 0)]) rfl ?_
    have hP : va_P (dC, dI) vwCl [((ad 21), .inl (cI, 16, .inl m_further)), ((ad 20), .inl (cI, 16, .inl m_ways)), (ad 0, .inr (10, oM ad m_undoCount m_thrown m_hasSnapshot a_m_fam m_rows m_lineLength m_formattedLength m_bufferLength m_limit m_next m_beginsAt m_token m_error m_errorAt m_errorPosition m_nested m_codeCount)), (a_m_fam, .inl (cJ, 130, .inr (.inl m_fam)))] H := hP
    have hD : va_D A [((ad 21), .inl (cI, 16, .inl m_further)), ((ad 20), .inl (cI, 16, .inl m_ways)), (ad 0, .inr (10, oM ad m_undoCount m_thrown m_hasSnapshot a_m_fam m_rows m_lineLength m_formattedLength m_bufferLength m_limit m_next m_beginsAt m_token m_error m_errorAt m_errorPosition m_nested m_codeCount)), (a_m_fam, .inl (cJ, 130, .inr (.inl m_fam)))] := hD
    refine lv_if_eq (tgt := 29) hx hb dX10_collapse_22 (by decide) (fun h9 => ?_) (fun h9 => ?_)
    · have hf := ctf (bI_0 h9) hf
      refine lv_iconst (v := 2) hx hb dX10_collapse_29 (by decide) ?_
      refine va_put (D := (dC, dI)) (ci := 10) (v := .int (2 : Int32)) (ty := .int) (C := RX10) (T := TX10) (N := 37) hx hb htg inX10 tyX10 tyX10_ok nmX10 hown hE.1 hP hD hS 2 rfl rfl 5 (by decide) (htg _ tw1387) (fun _ h9 => h9) rfl (by decide +kernel) rfl rfl (Nat.le_of_ble_eq_true rfl) dX10_collapse_30 (fun H locs hP hD hS => ?_)
      have hP : va_P (dC, dI) vwCl [((ad 21), .inl (cI, 16, .inl m_further)), ((ad 20), .inl (cI, 16, .inl m_ways)), (ad 0, .inr (10, oM ad m_undoCount (2 : Int32) m_hasSnapshot a_m_fam m_rows m_lineLength m_formattedLength m_bufferLength m_limit m_next m_beginsAt m_token m_error m_errorAt m_errorPosition m_nested m_codeCount)), (a_m_fam, .inl (cJ, 130, .inr (.inl m_fam)))] H := hP
      have hD : va_D A [((ad 21), .inl (cI, 16, .inl m_further)), ((ad 20), .inl (cI, 16, .inl m_ways)), (ad 0, .inr (10, oM ad m_undoCount (2 : Int32) m_hasSnapshot a_m_fam m_rows m_lineLength m_formattedLength m_bufferLength m_limit m_next m_beginsAt m_token m_error m_errorAt m_errorPosition m_nested m_codeCount)), (a_m_fam, .inl (cJ, 130, .inr (.inl m_fam)))] := hD
      exact J33 (2 : Int32) H locs ls hf (hP.sub [2, 3, 0, 1] rfl) (hD.sub [2, 3, 0, 1] (by decide) rfl) hS (lv_sub hl [0, 1, 2] rfl)
    · have hf := ctt (bI_1 h9) hf
      refine lv_iconst (v := 0) hx hb dX10_collapse_25 (by decide) ?_
      refine lv_goto (tgt := 30) hx hb dX10_collapse_26 (by decide) ?_
      refine va_put (D := (dC, dI)) (ci := 10) (v := .int (0 : Int32)) (ty := .int) (C := RX10) (T := TX10) (N := 37) hx hb htg inX10 tyX10 tyX10_ok nmX10 hown hE.1 hP hD hS 2 rfl rfl 5 (by decide) (htg _ tw1387) (fun _ h9 => h9) rfl (by decide +kernel) rfl rfl (Nat.le_of_ble_eq_true rfl) dX10_collapse_30 (fun H locs hP hD hS => ?_)
      have hP : va_P (dC, dI) vwCl [((ad 21), .inl (cI, 16, .inl m_further)), ((ad 20), .inl (cI, 16, .inl m_ways)), (ad 0, .inr (10, oM ad m_undoCount (0 : Int32) m_hasSnapshot a_m_fam m_rows m_lineLength m_formattedLength m_bufferLength m_limit m_next m_beginsAt m_token m_error m_errorAt m_errorPosition m_nested m_codeCount)), (a_m_fam, .inl (cJ, 130, .inr (.inl m_fam)))] H := hP
      have hD : va_D A [((ad 21), .inl (cI, 16, .inl m_further)), ((ad 20), .inl (cI, 16, .inl m_ways)), (ad 0, .inr (10, oM ad m_undoCount (0 : Int32) m_hasSnapshot a_m_fam m_rows m_lineLength m_formattedLength m_bufferLength m_limit m_next m_beginsAt m_token m_error m_errorAt m_errorPosition m_nested m_codeCount)), (a_m_fam, .inl (cJ, 130, .inr (.inl m_fam)))] := hD
      exact J33 (0 : Int32) H locs ls hf (hP.sub [2, 3, 0, 1] rfl) (hD.sub [2, 3, 0, 1] (by decide) rfl) hS (lv_sub hl [0, 1, 2] rfl)
  · have hf := ctf (bI_0 h9) hf
    refine lv_iconst (v := 1) hx hb dX10_collapse_9 (by decide) ?_
    refine lv_goto (tgt := 30) hx hb dX10_collapse_10 (by decide) ?_
    refine va_put (D := (dC, dI)) (ci := 10) (v := .int (1 : Int32)) (ty := .int) (C := RX10) (T := TX10) (N := 37) hx hb htg inX10 tyX10 tyX10_ok nmX10 hown hE.1 hP hD hS 2 rfl rfl 5 (by decide) (htg _ tw1387) (fun _ h9 => h9) rfl (by decide +kernel) rfl rfl (Nat.le_of_ble_eq_true rfl) dX10_collapse_30 (fun H locs hP hD hS => ?_)
    have hP : va_P (dC, dI) vwCl [((ad 21), .inl (cI, 16, .inl m_further)), ((ad 20), .inl (cI, 16, .inl m_ways)), (ad 0, .inr (10, oM ad m_undoCount (1 : Int32) m_hasSnapshot a_m_fam m_rows m_lineLength m_formattedLength m_bufferLength m_limit m_next m_beginsAt m_token m_error m_errorAt m_errorPosition m_nested m_codeCount)), (a_m_fam, .inl (cJ, 130, .inr (.inl m_fam)))] H := hP
    have hD : va_D A [((ad 21), .inl (cI, 16, .inl m_further)), ((ad 20), .inl (cI, 16, .inl m_ways)), (ad 0, .inr (10, oM ad m_undoCount (1 : Int32) m_hasSnapshot a_m_fam m_rows m_lineLength m_formattedLength m_bufferLength m_limit m_next m_beginsAt m_token m_error m_errorAt m_errorPosition m_nested m_codeCount)), (a_m_fam, .inl (cJ, 130, .inr (.inl m_fam)))] := hD
    exact J33 (1 : Int32) H locs ls hf (hP.sub [2, 3, 0, 1] rfl) (hD.sub [2, 3, 0, 1] (by decide) rfl) hS (lv_sub hl [0, 1, 2] rfl)
def p10_isRow (m_rows : Int32) (v1 : Int32) : Bool := (p10_inRange v1.toInt64 (0 : Int64) (m_rows.toInt64 - (1 : Int64)))
set_option maxHeartbeats 4000000 in
set_option maxRecDepth 100000 in
theorem c_X10_isRow (ad : Nat → Nat) (a_m_fam : Nat) (m_undoCount : Int32) (m_thrown : Int32) (m_hasSnapshot : Bool) (m_rows : Int32) (m_lineLength : Int32) (m_formattedLength : Int32) (m_bufferLength : Int32) (m_limit : Int32) (m_next : Int32) (m_beginsAt : Int32) (m_token : Int32) (m_error : Int32) (m_errorAt : Int32) (m_errorPosition : Int32) (m_nested : Int32) (m_codeCount : Int32) (v1 : Int32) (r9 : Bool) (hf : p10_isRow m_rows v1 = r9) : gM l dC dI cI cJ cZ yX10_isRow cX10_isRow 2 (some .boolean) (1) (25) [.ref (ad 0), .int v1] [(ad 0, .inr (10, oM ad m_undoCount m_thrown m_hasSnapshot a_m_fam m_rows m_lineLength m_formattedLength m_bufferLength m_limit m_next m_beginsAt m_token m_error m_errorAt m_errorPosition m_nested m_codeCount))] [(ad 0, .inr (10, oM ad m_undoCount m_thrown m_hasSnapshot a_m_fam m_rows m_lineLength m_formattedLength m_bufferLength m_limit m_next m_beginsAt m_token m_error m_errorAt m_errorPosition m_nested m_codeCount))] (some (.int (bI r9))) := by
  refine g_start (own := RX10) (by decide +kernel) rfl (Nat.le_of_ble_eq_true rfl) ?_
  intro p e s m below meth c A ls S hr hlocks hE hP hD hS hA hl hin
  have hx := S.1
  have hb := S.2.1
  have hml := S.2.2.1
  have hown := S.2.2.2.1
  have htg : ∀ z ∈ gw, z.before ([.ref (ad 0), .int v1] : List Value).toArray s = true := fun w h => S.2.2.2.2 w (List.mem_cons_of_mem _ h)
  have hl : lv_has ls 2 [(0, .ref (ad 0)), (1, .int v1)] := hl
  have hS0 := hS
  obtain ⟨H, hH⟩ : ∃ H, H = s.heap := ⟨_, rfl⟩
  obtain ⟨locs, hlc⟩ : ∃ locs : List Loc, locs = [] := ⟨_, rfl⟩
  have hS : va_S A s.heap H locs := by rw [hH, hlc]; exact hS0
  have hP : va_P (dC, dI) vwCl [(ad 0, .inr (10, oM ad m_undoCount m_thrown m_hasSnapshot a_m_fam m_rows m_lineLength m_formattedLength m_bufferLength m_limit m_next m_beginsAt m_token m_error m_errorAt m_errorPosition m_nested m_codeCount))] H := by rw [hH]; exact hP
  suffices hgo : W p l e ({ frames := 1, cells := 0, slots := 0, locals := 25 }) s m ([.ref (ad 0), .int v1] : List Value).toArray below meth c H locs 0 0 (MQ below (gQ dC dI (some (.int (bI r9))) A [(ad 0, .inr (10, oM ad m_undoCount m_thrown m_hasSnapshot a_m_fam m_rows m_lineLength m_formattedLength m_bufferLength m_limit m_next m_beginsAt m_token m_error m_errorAt m_errorPosition m_nested m_codeCount))]) ([.ref (ad 0), .int v1] : List Value).toArray s 0 0 A) (F0 m 0 ls []) by rw [hH, hlc] at hgo; exact hgo
  rw [p10_isRow] at hf
  refine lv_iload_n hx hb dX10_isRow_0 rfl (lv_at hl 1 rfl) ?_
  refine lv_i2l hx hb dX10_isRow_1 rfl ?_
  refine lv_lconst (v := 0) hx hb dX10_isRow_2 (by decide) ?_
  refine lv_aload_n hx hb dX10_isRow_3 rfl (lv_at hl 0 rfl) ?_
  refine va_get (D := (dC, dI)) (ci := 10) (v := .int m_rows) (C := RX10) (T := TX10) (N := 37) hx hb htg inX10 hown hE.1 hP 0 rfl rfl 14 (by decide) (htg _ tw1396) (fun _ h9 => h9) rfl dX10_isRow_4 ?_
  refine lv_i2l hx hb dX10_isRow_7 rfl ?_
  refine lv_lconst (v := 1) hx hb dX10_isRow_8 (by decide) ?_
  refine lv_lsub hx hb dX10_isRow_9 ?_
  refine gcS (index := 106) S hE (c_X10_inRange v1.toInt64 (0 : Int64) (m_rows.toInt64 - (1 : Int64)) (p10_inRange v1.toInt64 (0 : Int64) (m_rows.toInt64 - (1 : Int64))) rfl) mX10_inRange tw1580 ⟨Nat.le_of_ble_eq_true rfl, Nat.le_of_ble_eq_true rfl⟩ hP hD hS hA ⟨Nat.zero_le _, Nat.zero_le _⟩ (wr := [(ad 0, .inr (10, oM ad m_undoCount m_thrown m_hasSnapshot a_m_fam m_rows m_lineLength m_formattedLength m_bufferLength m_limit m_next m_beginsAt m_token m_error m_errorAt m_errorPosition m_nested m_codeCount))]) [] [0] rfl rfl rfl rfl (by decide) (As := [.long v1.toInt64, .long (0 : Int64), .long (m_rows.toInt64 - (1 : Int64))]) (rest := []) rfl hl.1 rfl (Nat.le_of_ble_eq_true rfl) dX10_isRow_10 (fun H locs hP hD hS => ?_)
  refine W.eq (g2 := F0 m 13 ls [.int (bI (p10_inRange v1.toInt64 (0 : Int64) (m_rows.toInt64 - (1 : Int64))))]) rfl ?_
  have hP : va_P (dC, dI) vwCl [(ad 0, .inr (10, oM ad m_undoCount m_thrown m_hasSnapshot a_m_fam m_rows m_lineLength m_formattedLength m_bufferLength m_limit m_next m_beginsAt m_token m_error m_errorAt m_errorPosition m_nested m_codeCount))] H := hP
  have hD : va_D A [(ad 0, .inr (10, oM ad m_undoCount m_thrown m_hasSnapshot a_m_fam m_rows m_lineLength m_formattedLength m_bufferLength m_limit m_next m_beginsAt m_token m_error m_errorAt m_errorPosition m_nested m_codeCount))] := hD
  cases hf
  exact g_zret S hr (nar_bI (p10_inRange v1.toInt64 (0 : Int64) (m_rows.toInt64 - (1 : Int64)))) hlocks hP hD hS dX10_isRow_13
def p10_isPlace (m_rows : Int32) (m_rowSize : Nat → Int32) (v1 : Int32) (v2 : Int32) : Option (Bool) := (cond ((p10_isRow m_rows v1)) (gd v1 16 ((cond ((p10_inRange v2.toInt64 (0 : Int64) ((m_rowSize v1.toNatClampNeg).toInt64 - (1 : Int64)))) (some true) (some false)))) (some false))
set_option maxHeartbeats 4000000 in
set_option maxRecDepth 100000 in
theorem c_X10_isPlace (ad : Nat → Nat) (a_m_fam : Nat) (m_undoCount : Int32) (m_thrown : Int32) (m_hasSnapshot : Bool) (m_rows : Int32) (m_lineLength : Int32) (m_formattedLength : Int32) (m_bufferLength : Int32) (m_limit : Int32) (m_next : Int32) (m_beginsAt : Int32) (m_token : Int32) (m_error : Int32) (m_errorAt : Int32) (m_errorPosition : Int32) (m_nested : Int32) (m_codeCount : Int32) (m_rowSize : Nat → Int32) (v1 : Int32) (v2 : Int32) (r9 : Bool) (hf : p10_isPlace m_rows m_rowSize v1 v2 = some r9) : gM l dC dI cI cJ cZ yX10_isPlace cX10_isPlace 3 (some .boolean) (2) (46) [.ref (ad 0), .int v1, .int v2] [(ad 0, .inr (10, oM ad m_undoCount m_thrown m_hasSnapshot a_m_fam m_rows m_lineLength m_formattedLength m_bufferLength m_limit m_next m_beginsAt m_token m_error m_errorAt m_errorPosition m_nested m_codeCount)), ((ad 11), .inl (cI, 16, .inl m_rowSize))] [(ad 0, .inr (10, oM ad m_undoCount m_thrown m_hasSnapshot a_m_fam m_rows m_lineLength m_formattedLength m_bufferLength m_limit m_next m_beginsAt m_token m_error m_errorAt m_errorPosition m_nested m_codeCount)), ((ad 11), .inl (cI, 16, .inl m_rowSize))] (some (.int (bI r9))) := by
  refine g_start (own := RX10) (by decide +kernel) rfl (Nat.le_of_ble_eq_true rfl) ?_
  intro p e s m below meth c A ls S hr hlocks hE hP hD hS hA hl hin
  have hx := S.1
  have hb := S.2.1
  have hml := S.2.2.1
  have hown := S.2.2.2.1
  have htg : ∀ z ∈ gw, z.before ([.ref (ad 0), .int v1, .int v2] : List Value).toArray s = true := fun w h => S.2.2.2.2 w (List.mem_cons_of_mem _ h)
  have hl : lv_has ls 3 [(0, .ref (ad 0)), (1, .int v1), (2, .int v2)] := hl
  have hS0 := hS
  obtain ⟨H, hH⟩ : ∃ H, H = s.heap := ⟨_, rfl⟩
  obtain ⟨locs, hlc⟩ : ∃ locs : List Loc, locs = [] := ⟨_, rfl⟩
  have hS : va_S A s.heap H locs := by rw [hH, hlc]; exact hS0
  have hP : va_P (dC, dI) vwCl [(ad 0, .inr (10, oM ad m_undoCount m_thrown m_hasSnapshot a_m_fam m_rows m_lineLength m_formattedLength m_bufferLength m_limit m_next m_beginsAt m_token m_error m_errorAt m_errorPosition m_nested m_codeCount)), ((ad 11), .inl (cI, 16, .inl m_rowSize))] H := by rw [hH]; exact hP
  suffices hgo : W p l e ({ frames := 2, cells := 0, slots := 0, locals := 46 }) s m ([.ref (ad 0), .int v1, .int v2] : List Value).toArray below meth c H locs 0 0 (MQ below (gQ dC dI (some (.int (bI r9))) A [(ad 0, .inr (10, oM ad m_undoCount m_thrown m_hasSnapshot a_m_fam m_rows m_lineLength m_formattedLength m_bufferLength m_limit m_next m_beginsAt m_token m_error m_errorAt m_errorPosition m_nested m_codeCount)), ((ad 11), .inl (cI, 16, .inl m_rowSize))]) ([.ref (ad 0), .int v1, .int v2] : List Value).toArray s 0 0 A) (F0 m 0 ls []) by rw [hH, hlc] at hgo; exact hgo
  rw [p10_isPlace] at hf
  refine lv_aload_n hx hb dX10_isPlace_0 rfl (lv_at hl 0 rfl) ?_
  refine lv_iload_n hx hb dX10_isPlace_1 rfl (lv_at hl 1 rfl) ?_
  refine gcV (index := 289) S hE (c_X10_isRow ad a_m_fam m_undoCount m_thrown m_hasSnapshot m_rows m_lineLength m_formattedLength m_bufferLength m_limit m_next m_beginsAt m_token m_error m_errorAt m_errorPosition m_nested m_codeCount v1 (p10_isRow m_rows v1) rfl) mX10_isRow tw1716 ⟨Nat.le_of_ble_eq_true rfl, Nat.le_of_ble_eq_true rfl⟩ hP hD hS hA ⟨Nat.zero_le _, Nat.zero_le _⟩ 0 10 rfl rfl rfl (wr := [((ad 11), .inl (cI, 16, .inl m_rowSize))]) [0] [1] rfl rfl rfl rfl (by decide) (As := [.int v1]) (rest := []) rfl hl.1 rfl (Nat.le_of_ble_eq_true rfl) dX10_isPlace_2 (fun H locs hP hD hS => ?_)
  refine W.eq (g2 := F0 m 5 ls [.int (bI (p10_isRow m_rows v1))]) rfl ?_
  have hP : va_P (dC, dI) vwCl [((ad 11), .inl (cI, 16, .inl m_rowSize)), (ad 0, .inr (10, oM ad m_undoCount m_thrown m_hasSnapshot a_m_fam m_rows m_lineLength m_formattedLength m_bufferLength m_limit m_next m_beginsAt m_token m_error m_errorAt m_errorPosition m_nested m_codeCount))] H := hP
  have hD : va_D A [((ad 11), .inl (cI, 16, .inl m_rowSize)), (ad 0, .inr (10, oM ad m_undoCount m_thrown m_hasSnapshot a_m_fam m_rows m_lineLength m_formattedLength m_bufferLength m_limit m_next m_beginsAt m_token m_error m_errorAt m_errorPosition m_nested m_codeCount))] := hD
  refine lv_if_eq (tgt := 30) hx hb dX10_isPlace_5 (by decide) (fun h9 => ?_) (fun h9 => ?_)
  · have hf := ctf (bI_0 h9) hf
    refine lv_iconst (v := 0) hx hb dX10_isPlace_30 (by decide) ?_
    cases hf
    exact g_zret S hr (nar_bI false) hlocks (hP.sub [1, 0] rfl) (hD.sub [1, 0] (by decide) rfl) hS dX10_isPlace_31
  · have hf := ctt (bI_1 h9) hf
    refine lv_iload_n hx hb dX10_isPlace_8 rfl (lv_at hl 2 rfl) ?_
    refine lv_i2l hx hb dX10_isPlace_9 rfl ?_
    refine lv_lconst (v := 0) hx hb dX10_isPlace_10 (by decide) ?_
    refine lv_aload_n hx hb dX10_isPlace_11 rfl (lv_at hl 0 rfl) ?_
    refine va_get (D := (dC, dI)) (ci := 10) (v := .ref (ad 11)) (C := RX10) (T := TX10) (N := 37) hx hb htg inX10 hown hE.1 hP 1 rfl rfl 10 (by decide) (htg _ tw1392) (fun _ h9 => h9) rfl dX10_isPlace_12 ?_
    refine lv_iload_n hx hb dX10_isPlace_15 rfl (lv_at hl 1 rfl) ?_
    obtain ⟨h9, hf⟩ := gd_s hf
    refine va_iald hx hb hE.1 hP 0 0 rfl rfl h9 dX10_isPlace_16 ?_
    refine lv_i2l hx hb dX10_isPlace_17 rfl ?_
    refine lv_lconst (v := 1) hx hb dX10_isPlace_18 (by decide) ?_
    refine lv_lsub hx hb dX10_isPlace_19 ?_
    refine gcS (index := 106) S hE (c_X10_inRange v2.toInt64 (0 : Int64) ((m_rowSize v1.toNatClampNeg).toInt64 - (1 : Int64)) (p10_inRange v2.toInt64 (0 : Int64) ((m_rowSize v1.toNatClampNeg).toInt64 - (1 : Int64))) rfl) mX10_inRange tw1580 ⟨Nat.le_of_ble_eq_true rfl, Nat.le_of_ble_eq_true rfl⟩ hP hD hS hA ⟨Nat.zero_le _, Nat.zero_le _⟩ (wr := [((ad 11), .inl (cI, 16, .inl m_rowSize)), (ad 0, .inr (10, oM ad m_undoCount m_thrown m_hasSnapshot a_m_fam m_rows m_lineLength m_formattedLength m_bufferLength m_limit m_next m_beginsAt m_token m_error m_errorAt m_errorPosition m_nested m_codeCount))]) [] [0, 1] rfl rfl rfl rfl (by decide) (As := [.long v2.toInt64, .long (0 : Int64), .long ((m_rowSize v1.toNatClampNeg).toInt64 - (1 : Int64))]) (rest := []) rfl hl.1 rfl (Nat.le_of_ble_eq_true rfl) dX10_isPlace_20 (fun H locs hP hD hS => ?_)
    refine W.eq (g2 := F0 m 23 ls [.int (bI (p10_inRange v2.toInt64 (0 : Int64) ((m_rowSize v1.toNatClampNeg).toInt64 - (1 : Int64))))]) rfl ?_
    have hP : va_P (dC, dI) vwCl [((ad 11), .inl (cI, 16, .inl m_rowSize)), (ad 0, .inr (10, oM ad m_undoCount m_thrown m_hasSnapshot a_m_fam m_rows m_lineLength m_formattedLength m_bufferLength m_limit m_next m_beginsAt m_token m_error m_errorAt m_errorPosition m_nested m_codeCount))] H := hP
    have hD : va_D A [((ad 11), .inl (cI, 16, .inl m_rowSize)), (ad 0, .inr (10, oM ad m_undoCount m_thrown m_hasSnapshot a_m_fam m_rows m_lineLength m_formattedLength m_bufferLength m_limit m_next m_beginsAt m_token m_error m_errorAt m_errorPosition m_nested m_codeCount))] := hD
    refine lv_if_eq (tgt := 30) hx hb dX10_isPlace_23 (by decide) (fun h9 => ?_) (fun h9 => ?_)
    · have hf := ctf (bI_0 h9) hf
      refine lv_iconst (v := 0) hx hb dX10_isPlace_30 (by decide) ?_
      cases hf
      exact g_zret S hr (nar_bI false) hlocks (hP.sub [1, 0] rfl) (hD.sub [1, 0] (by decide) rfl) hS dX10_isPlace_31
    · have hf := ctt (bI_1 h9) hf
      refine lv_iconst (v := 1) hx hb dX10_isPlace_26 (by decide) ?_
      refine lv_goto (tgt := 31) hx hb dX10_isPlace_27 (by decide) ?_
      cases hf
      exact g_zret S hr (nar_bI true) hlocks (hP.sub [1, 0] rfl) (hD.sub [1, 0] (by decide) rfl) hS dX10_isPlace_31
def p10_place (m_fam : Nat → Int64) (v1 : Int32) : Option (Int32 × Int32) := ob (p10_isPerson m_fam v1) (fun r7 => (cond r7 (ob (p10_placeOf m_fam v1) (fun r15 => some (r15, (0 : Int32)))) (lb (p10_raise (1 : Int32)) (uc2 fun r23 m_thrown_23 => some (r23, m_thrown_23)))))
set_option maxHeartbeats 4000000 in
set_option maxRecDepth 100000 in
theorem c_X10_place (ad : Nat → Nat) (a_m_fam : Nat) (m_undoCount : Int32) (m_thrown : Int32) (m_hasSnapshot : Bool) (m_rows : Int32) (m_lineLength : Int32) (m_formattedLength : Int32) (m_bufferLength : Int32) (m_limit : Int32) (m_next : Int32) (m_beginsAt : Int32) (m_token : Int32) (m_error : Int32) (m_errorAt : Int32) (m_errorPosition : Int32) (m_nested : Int32) (m_codeCount : Int32) (m_fam : Nat → Int64) (v1 : Int32) (r9 : Int32) (m_thrown_9 : Int32) (hf : p10_place m_fam v1 = some (r9, m_thrown_9)) : gM l dC dI cI cJ cZ yX10_place cX10_place 2 (some .int) (2) (46) [.ref (ad 0), .int v1] [(ad 0, .inr (10, oM ad m_undoCount m_thrown m_hasSnapshot a_m_fam m_rows m_lineLength m_formattedLength m_bufferLength m_limit m_next m_beginsAt m_token m_error m_errorAt m_errorPosition m_nested m_codeCount)), (a_m_fam, .inl (cJ, 130, .inr (.inl m_fam)))] [(ad 0, .inr (10, oM ad m_undoCount m_thrown_9 m_hasSnapshot a_m_fam m_rows m_lineLength m_formattedLength m_bufferLength m_limit m_next m_beginsAt m_token m_error m_errorAt m_errorPosition m_nested m_codeCount)), (a_m_fam, .inl (cJ, 130, .inr (.inl m_fam)))] (some (.int r9)) := by
  refine g_start (own := RX10) (by decide +kernel) rfl (Nat.le_of_ble_eq_true rfl) ?_
  intro p e s m below meth c A ls S hr hlocks hE hP hD hS hA hl hin
  have hx := S.1
  have hb := S.2.1
  have hml := S.2.2.1
  have hown := S.2.2.2.1
  have htg : ∀ z ∈ gw, z.before ([.ref (ad 0), .int v1] : List Value).toArray s = true := fun w h => S.2.2.2.2 w (List.mem_cons_of_mem _ h)
  have hl : lv_has ls 2 [(0, .ref (ad 0)), (1, .int v1)] := hl
  have hS0 := hS
  obtain ⟨H, hH⟩ : ∃ H, H = s.heap := ⟨_, rfl⟩
  obtain ⟨locs, hlc⟩ : ∃ locs : List Loc, locs = [] := ⟨_, rfl⟩
  have hS : va_S A s.heap H locs := by rw [hH, hlc]; exact hS0
  have hP : va_P (dC, dI) vwCl [(ad 0, .inr (10, oM ad m_undoCount m_thrown m_hasSnapshot a_m_fam m_rows m_lineLength m_formattedLength m_bufferLength m_limit m_next m_beginsAt m_token m_error m_errorAt m_errorPosition m_nested m_codeCount)), (a_m_fam, .inl (cJ, 130, .inr (.inl m_fam)))] H := by rw [hH]; exact hP
  suffices hgo : W p l e ({ frames := 2, cells := 0, slots := 0, locals := 46 }) s m ([.ref (ad 0), .int v1] : List Value).toArray below meth c H locs 0 0 (MQ below (gQ dC dI (some (.int r9)) A [(ad 0, .inr (10, oM ad m_undoCount m_thrown_9 m_hasSnapshot a_m_fam m_rows m_lineLength m_formattedLength m_bufferLength m_limit m_next m_beginsAt m_token m_error m_errorAt m_errorPosition m_nested m_codeCount)), (a_m_fam, .inl (cJ, 130, .inr (.inl m_fam)))]) ([.ref (ad 0), .int v1] : List Value).toArray s 0 0 A) (F0 m 0 ls []) by rw [hH, hlc] at hgo; exact hgo
  rw [p10_place] at hf
  refine lv_aload_n hx hb dX10_place_0 rfl (lv_at hl 0 rfl) ?_
  refine lv_iconst (v := 0) hx hb dX10_place_1 (by decide) ?_
  refine va_put (D := (dC, dI)) (ci := 10) (v := .int (0 : Int32)) (ty := .int) (C := RX10) (T := TX10) (N := 37) hx hb htg inX10 tyX10 tyX10_ok nmX10 hown hE.1 hP hD hS 0 rfl rfl 5 (by decide) (htg _ tw1387) (fun _ h9 => h9) rfl (by decide +kernel) rfl rfl (Nat.le_of_ble_eq_true rfl) dX10_place_2 (fun H locs hP hD hS => ?_)
  have hP : va_P (dC, dI) vwCl [(ad 0, .inr (10, oM ad m_undoCount (0 : Int32) m_hasSnapshot a_m_fam m_rows m_lineLength m_formattedLength m_bufferLength m_limit m_next m_beginsAt m_token m_error m_errorAt m_errorPosition m_nested m_codeCount)), (a_m_fam, .inl (cJ, 130, .inr (.inl m_fam)))] H := hP
  have hD : va_D A [(ad 0, .inr (10, oM ad m_undoCount (0 : Int32) m_hasSnapshot a_m_fam m_rows m_lineLength m_formattedLength m_bufferLength m_limit m_next m_beginsAt m_token m_error m_errorAt m_errorPosition m_nested m_codeCount)), (a_m_fam, .inl (cJ, 130, .inr (.inl m_fam)))] := hD
  refine lv_aload_n hx hb dX10_place_5 rfl (lv_at hl 0 rfl) ?_
  refine lv_iload_n hx hb dX10_place_6 rfl (lv_at hl 1 rfl) ?_
  obtain ⟨r7, h9, hf⟩ := ob_s hf
  refine gcV (index := 234) S hE (c_X10_isPerson ad a_m_fam m_undoCount (0 : Int32) m_hasSnapshot m_rows m_lineLength m_formattedLength m_bufferLength m_limit m_next m_beginsAt m_token m_error m_errorAt m_errorPosition m_nested m_codeCount m_fam v1 r7 h9) mX10_isPerson tw1576 ⟨Nat.le_of_ble_eq_true rfl, Nat.le_of_ble_eq_true rfl⟩ hP hD hS hA ⟨Nat.zero_le _, Nat.zero_le _⟩ 0 10 rfl rfl rfl (wr := []) [0, 1] [] rfl rfl rfl rfl (by decide) (As := [.int v1]) (rest := []) rfl hl.1 rfl (Nat.le_of_ble_eq_true rfl) dX10_place_7 (fun H locs hP hD hS => ?_)
  refine W.eq (g2 := F0 m 10 ls [.int (bI r7)]) rfl ?_
  have hP : va_P (dC, dI) vwCl [(ad 0, .inr (10, oM ad m_undoCount (0 : Int32) m_hasSnapshot a_m_fam m_rows m_lineLength m_formattedLength m_bufferLength m_limit m_next m_beginsAt m_token m_error m_errorAt m_errorPosition m_nested m_codeCount)), (a_m_fam, .inl (cJ, 130, .inr (.inl m_fam)))] H := hP
  have hD : va_D A [(ad 0, .inr (10, oM ad m_undoCount (0 : Int32) m_hasSnapshot a_m_fam m_rows m_lineLength m_formattedLength m_bufferLength m_limit m_next m_beginsAt m_token m_error m_errorAt m_errorPosition m_nested m_codeCount)), (a_m_fam, .inl (cJ, 130, .inr (.inl m_fam)))] := hD
  refine lv_if_eq (tgt := 21) hx hb dX10_place_10 (by decide) (fun h9 => ?_) (fun h9 => ?_)
  · have hf := ctf (bI_0 h9) hf
    refine lv_aload_n hx hb dX10_place_21 rfl (lv_at hl 0 rfl) ?_
    refine lv_iconst (v := 1) hx hb dX10_place_22 (by decide) ?_
    obtain ⟨r23, m_thrown_23, h9⟩ : ∃ r23 m_thrown_23, p10_raise (1 : Int32) = (r23, m_thrown_23) := ⟨_, _, rfl⟩
    have hf := uc2_e (lb_e h9.symm hf)
    refine gcV (index := 240) S hE (c_X10_raise ad a_m_fam m_undoCount (0 : Int32) m_hasSnapshot m_rows m_lineLength m_formattedLength m_bufferLength m_limit m_next m_beginsAt m_token m_error m_errorAt m_errorPosition m_nested m_codeCount (1 : Int32) r23 m_thrown_23 h9) mX10_raise tw1584 ⟨Nat.le_of_ble_eq_true rfl, Nat.le_of_ble_eq_true rfl⟩ hP hD hS hA ⟨Nat.zero_le _, Nat.zero_le _⟩ 0 10 rfl rfl rfl (wr := [(a_m_fam, .inl (cJ, 130, .inr (.inl m_fam)))]) [0] [1] rfl rfl rfl rfl (by decide) (As := [.int (1 : Int32)]) (rest := []) rfl hl.1 rfl (Nat.le_of_ble_eq_true rfl) dX10_place_23 (fun H locs hP hD hS => ?_)
    refine W.eq (g2 := F0 m 26 ls [.int r23]) rfl ?_
    have hP : va_P (dC, dI) vwCl [(a_m_fam, .inl (cJ, 130, .inr (.inl m_fam))), (ad 0, .inr (10, oM ad m_undoCount m_thrown_23 m_hasSnapshot a_m_fam m_rows m_lineLength m_formattedLength m_bufferLength m_limit m_next m_beginsAt m_token m_error m_errorAt m_errorPosition m_nested m_codeCount))] H := hP
    have hD : va_D A [(a_m_fam, .inl (cJ, 130, .inr (.inl m_fam))), (ad 0, .inr (10, oM ad m_undoCount m_thrown_23 m_hasSnapshot a_m_fam m_rows m_lineLength m_formattedLength m_bufferLength m_limit m_next m_beginsAt m_token m_error m_errorAt m_errorPosition m_nested m_codeCount))] := hD
    cases hf
    exact g_iret S hr hlocks (hP.sub [1, 0] rfl) (hD.sub [1, 0] (by decide) rfl) hS dX10_place_26
  · have hf := ctt (bI_1 h9) hf
    refine lv_aload_n hx hb dX10_place_13 rfl (lv_at hl 0 rfl) ?_
    refine lv_iload_n hx hb dX10_place_14 rfl (lv_at hl 1 rfl) ?_
    obtain ⟨r15, h9, hf⟩ := ob_s hf
    refine gcV (index := 147) S hE (c_X10_placeOf ad a_m_fam m_undoCount (0 : Int32) m_hasSnapshot m_rows m_lineLength m_formattedLength m_bufferLength m_limit m_next m_beginsAt m_token m_error m_errorAt m_errorPosition m_nested m_codeCount m_fam v1 r15 h9) mX10_placeOf tw1548 ⟨Nat.le_of_ble_eq_true rfl, Nat.le_of_ble_eq_true rfl⟩ hP hD hS hA ⟨Nat.zero_le _, Nat.zero_le _⟩ 0 10 rfl rfl rfl (wr := []) [0, 1] [] rfl rfl rfl rfl (by decide) (As := [.int v1]) (rest := []) rfl hl.1 rfl (Nat.le_of_ble_eq_true rfl) dX10_place_15 (fun H locs hP hD hS => ?_)
    refine W.eq (g2 := F0 m 18 ls [.int r15]) rfl ?_
    have hP : va_P (dC, dI) vwCl [(ad 0, .inr (10, oM ad m_undoCount (0 : Int32) m_hasSnapshot a_m_fam m_rows m_lineLength m_formattedLength m_bufferLength m_limit m_next m_beginsAt m_token m_error m_errorAt m_errorPosition m_nested m_codeCount)), (a_m_fam, .inl (cJ, 130, .inr (.inl m_fam)))] H := hP
    have hD : va_D A [(ad 0, .inr (10, oM ad m_undoCount (0 : Int32) m_hasSnapshot a_m_fam m_rows m_lineLength m_formattedLength m_bufferLength m_limit m_next m_beginsAt m_token m_error m_errorAt m_errorPosition m_nested m_codeCount)), (a_m_fam, .inl (cJ, 130, .inr (.inl m_fam)))] := hD
    refine lv_goto (tgt := 26) hx hb dX10_place_18 (by decide) ?_
    cases hf
    exact g_iret S hr hlocks hP hD hS dX10_place_26
def p10_isWidth (v0 : Int32) : Bool := (p10_inRange v0.toInt64 (10 : Int64) (200 : Int64))
set_option maxHeartbeats 4000000 in
set_option maxRecDepth 100000 in
theorem c_X10_isWidth (v0 : Int32) (r9 : Bool) (hf : p10_isWidth v0 = r9) : gM l dC dI cI cJ cZ yX10_isWidth cX10_isWidth 1 (some .boolean) (1) (25) [.int v0] [] [] (some (.int (bI r9))) := by
  refine g_start (own := RX10) (by decide +kernel) rfl (Nat.le_of_ble_eq_true rfl) ?_
  intro p e s m below meth c A ls S hr hlocks hE hP hD hS hA hl hin
  have hx := S.1
  have hb := S.2.1
  have hml := S.2.2.1
  have hown := S.2.2.2.1
  have htg : ∀ z ∈ gw, z.before ([.int v0] : List Value).toArray s = true := fun w h => S.2.2.2.2 w (List.mem_cons_of_mem _ h)
  have hl : lv_has ls 1 [(0, .int v0)] := hl
  have hS0 := hS
  obtain ⟨H, hH⟩ : ∃ H, H = s.heap := ⟨_, rfl⟩
  obtain ⟨locs, hlc⟩ : ∃ locs : List Loc, locs = [] := ⟨_, rfl⟩
  have hS : va_S A s.heap H locs := by rw [hH, hlc]; exact hS0
  have hP : va_P (dC, dI) vwCl [] H := by rw [hH]; exact hP
  suffices hgo : W p l e ({ frames := 1, cells := 0, slots := 0, locals := 25 }) s m ([.int v0] : List Value).toArray below meth c H locs 0 0 (MQ below (gQ dC dI (some (.int (bI r9))) A []) ([.int v0] : List Value).toArray s 0 0 A) (F0 m 0 ls []) by rw [hH, hlc] at hgo; exact hgo
  rw [p10_isWidth] at hf
  refine lv_iload_n hx hb dX10_isWidth_0 rfl (lv_at hl 0 rfl) ?_
  refine lv_i2l hx hb dX10_isWidth_1 rfl ?_
  refine lv_ldc2 (own := RX10) (v := 10) hx hb hown (htg _ tw1809) dX10_isWidth_2 ?_
  refine lv_ldc2 (own := RX10) (v := 200) hx hb hown (htg _ tw1810) dX10_isWidth_5 ?_
  refine gcS (index := 106) S hE (c_X10_inRange v0.toInt64 (10 : Int64) (200 : Int64) (p10_inRange v0.toInt64 (10 : Int64) (200 : Int64)) rfl) mX10_inRange tw1580 ⟨Nat.le_of_ble_eq_true rfl, Nat.le_of_ble_eq_true rfl⟩ hP hD hS hA ⟨Nat.zero_le _, Nat.zero_le _⟩ (wr := []) [] [] rfl rfl rfl rfl (by decide) (As := [.long v0.toInt64, .long (10 : Int64), .long (200 : Int64)]) (rest := []) rfl hl.1 rfl (Nat.le_of_ble_eq_true rfl) dX10_isWidth_8 (fun H locs hP hD hS => ?_)
  refine W.eq (g2 := F0 m 11 ls [.int (bI (p10_inRange v0.toInt64 (10 : Int64) (200 : Int64)))]) rfl ?_
  have hP : va_P (dC, dI) vwCl [] H := hP
  have hD : va_D A [] := hD
  cases hf
  exact g_zret S hr (nar_bI (p10_inRange v0.toInt64 (10 : Int64) (200 : Int64))) hlocks hP hD hS dX10_isWidth_11
def p10_formattedByte (m_formattedLength : Int32) (m_formatted : Nat → Int32) (v1 : Int32) : Option (Int32 × Int32) := (cond ((p10_inRange v1.toInt64 (0 : Int64) (m_formattedLength.toInt64 - (1 : Int64)))) (gd v1 200 (some ((m_formatted v1.toNatClampNeg), (0 : Int32)))) (some ((-1 : Int32), (0 : Int32))))
set_option maxHeartbeats 4000000 in
set_option maxRecDepth 100000 in
theorem c_X10_formattedByte (ad : Nat → Nat) (a_m_fam : Nat) (m_undoCount : Int32) (m_thrown : Int32) (m_hasSnapshot : Bool) (m_rows : Int32) (m_lineLength : Int32) (m_formattedLength : Int32) (m_bufferLength : Int32) (m_limit : Int32) (m_next : Int32) (m_beginsAt : Int32) (m_token : Int32) (m_error : Int32) (m_errorAt : Int32) (m_errorPosition : Int32) (m_nested : Int32) (m_codeCount : Int32) (m_formatted : Nat → Int32) (v1 : Int32) (r9 : Int32) (m_thrown_9 : Int32) (hf : p10_formattedByte m_formattedLength m_formatted v1 = some (r9, m_thrown_9)) : gM l dC dI cI cJ cZ yX10_formattedByte cX10_formattedByte 2 (some .int) (1) (25) [.ref (ad 0), .int v1] [(ad 0, .inr (10, oM ad m_undoCount m_thrown m_hasSnapshot a_m_fam m_rows m_lineLength m_formattedLength m_bufferLength m_limit m_next m_beginsAt m_token m_error m_errorAt m_errorPosition m_nested m_codeCount)), ((ad 22), .inl (cI, 200, .inl m_formatted))] [(ad 0, .inr (10, oM ad m_undoCount m_thrown_9 m_hasSnapshot a_m_fam m_rows m_lineLength m_formattedLength m_bufferLength m_limit m_next m_beginsAt m_token m_error m_errorAt m_errorPosition m_nested m_codeCount)), ((ad 22), .inl (cI, 200, .inl m_formatted))] (some (.int r9)) := by
  refine g_start (own := RX10) (by decide +kernel) rfl (Nat.le_of_ble_eq_true rfl) ?_
  intro p e s m below meth c A ls S hr hlocks hE hP hD hS hA hl hin
  have hx := S.1
  have hb := S.2.1
  have hml := S.2.2.1
  have hown := S.2.2.2.1
  have htg : ∀ z ∈ gw, z.before ([.ref (ad 0), .int v1] : List Value).toArray s = true := fun w h => S.2.2.2.2 w (List.mem_cons_of_mem _ h)
  have hl : lv_has ls 2 [(0, .ref (ad 0)), (1, .int v1)] := hl
  have hS0 := hS
  obtain ⟨H, hH⟩ : ∃ H, H = s.heap := ⟨_, rfl⟩
  obtain ⟨locs, hlc⟩ : ∃ locs : List Loc, locs = [] := ⟨_, rfl⟩
  have hS : va_S A s.heap H locs := by rw [hH, hlc]; exact hS0
  have hP : va_P (dC, dI) vwCl [(ad 0, .inr (10, oM ad m_undoCount m_thrown m_hasSnapshot a_m_fam m_rows m_lineLength m_formattedLength m_bufferLength m_limit m_next m_beginsAt m_token m_error m_errorAt m_errorPosition m_nested m_codeCount)), ((ad 22), .inl (cI, 200, .inl m_formatted))] H := by rw [hH]; exact hP
  suffices hgo : W p l e ({ frames := 1, cells := 0, slots := 0, locals := 25 }) s m ([.ref (ad 0), .int v1] : List Value).toArray below meth c H locs 0 0 (MQ below (gQ dC dI (some (.int r9)) A [(ad 0, .inr (10, oM ad m_undoCount m_thrown_9 m_hasSnapshot a_m_fam m_rows m_lineLength m_formattedLength m_bufferLength m_limit m_next m_beginsAt m_token m_error m_errorAt m_errorPosition m_nested m_codeCount)), ((ad 22), .inl (cI, 200, .inl m_formatted))]) ([.ref (ad 0), .int v1] : List Value).toArray s 0 0 A) (F0 m 0 ls []) by rw [hH, hlc] at hgo; exact hgo
  rw [p10_formattedByte] at hf
  refine lv_aload_n hx hb dX10_formattedByte_0 rfl (lv_at hl 0 rfl) ?_
  refine lv_iconst (v := 0) hx hb dX10_formattedByte_1 (by decide) ?_
  refine va_put (D := (dC, dI)) (ci := 10) (v := .int (0 : Int32)) (ty := .int) (C := RX10) (T := TX10) (N := 37) hx hb htg inX10 tyX10 tyX10_ok nmX10 hown hE.1 hP hD hS 0 rfl rfl 5 (by decide) (htg _ tw1387) (fun _ h9 => h9) rfl (by decide +kernel) rfl rfl (Nat.le_of_ble_eq_true rfl) dX10_formattedByte_2 (fun H locs hP hD hS => ?_)
  have hP : va_P (dC, dI) vwCl [(ad 0, .inr (10, oM ad m_undoCount (0 : Int32) m_hasSnapshot a_m_fam m_rows m_lineLength m_formattedLength m_bufferLength m_limit m_next m_beginsAt m_token m_error m_errorAt m_errorPosition m_nested m_codeCount)), ((ad 22), .inl (cI, 200, .inl m_formatted))] H := hP
  have hD : va_D A [(ad 0, .inr (10, oM ad m_undoCount (0 : Int32) m_hasSnapshot a_m_fam m_rows m_lineLength m_formattedLength m_bufferLength m_limit m_next m_beginsAt m_token m_error m_errorAt m_errorPosition m_nested m_codeCount)), ((ad 22), .inl (cI, 200, .inl m_formatted))] := hD
  refine lv_iload_n hx hb dX10_formattedByte_5 rfl (lv_at hl 1 rfl) ?_
  refine lv_i2l hx hb dX10_formattedByte_6 rfl ?_
  refine lv_lconst (v := 0) hx hb dX10_formattedByte_7 (by decide) ?_
  refine lv_aload_n hx hb dX10_formattedByte_8 rfl (lv_at hl 0 rfl) ?_
  refine va_get (D := (dC, dI)) (ci := 10) (v := .int m_formattedLength) (C := RX10) (T := TX10) (N := 37) hx hb htg inX10 hown hE.1 hP 0 rfl rfl 22 (by decide) (htg _ tw1404) (fun _ h9 => h9) rfl dX10_formattedByte_9 ?_
  refine lv_i2l hx hb dX10_formattedByte_12 rfl ?_
  refine lv_lconst (v := 1) hx hb dX10_formattedByte_13 (by decide) ?_
  refine lv_lsub hx hb dX10_formattedByte_14 ?_
  refine gcS (index := 106) S hE (c_X10_inRange v1.toInt64 (0 : Int64) (m_formattedLength.toInt64 - (1 : Int64)) (p10_inRange v1.toInt64 (0 : Int64) (m_formattedLength.toInt64 - (1 : Int64))) rfl) mX10_inRange tw1580 ⟨Nat.le_of_ble_eq_true rfl, Nat.le_of_ble_eq_true rfl⟩ hP hD hS hA ⟨Nat.zero_le _, Nat.zero_le _⟩ (wr := [(ad 0, .inr (10, oM ad m_undoCount (0 : Int32) m_hasSnapshot a_m_fam m_rows m_lineLength m_formattedLength m_bufferLength m_limit m_next m_beginsAt m_token m_error m_errorAt m_errorPosition m_nested m_codeCount)), ((ad 22), .inl (cI, 200, .inl m_formatted))]) [] [0, 1] rfl rfl rfl rfl (by decide) (As := [.long v1.toInt64, .long (0 : Int64), .long (m_formattedLength.toInt64 - (1 : Int64))]) (rest := []) rfl hl.1 rfl (Nat.le_of_ble_eq_true rfl) dX10_formattedByte_15 (fun H locs hP hD hS => ?_)
  refine W.eq (g2 := F0 m 18 ls [.int (bI (p10_inRange v1.toInt64 (0 : Int64) (m_formattedLength.toInt64 - (1 : Int64))))]) rfl ?_
  have hP : va_P (dC, dI) vwCl [(ad 0, .inr (10, oM ad m_undoCount (0 : Int32) m_hasSnapshot a_m_fam m_rows m_lineLength m_formattedLength m_bufferLength m_limit m_next m_beginsAt m_token m_error m_errorAt m_errorPosition m_nested m_codeCount)), ((ad 22), .inl (cI, 200, .inl m_formatted))] H := hP
  have hD : va_D A [(ad 0, .inr (10, oM ad m_undoCount (0 : Int32) m_hasSnapshot a_m_fam m_rows m_lineLength m_formattedLength m_bufferLength m_limit m_next m_beginsAt m_token m_error m_errorAt m_errorPosition m_nested m_codeCount)), ((ad 22), .inl (cI, 200, .inl m_formatted))] := hD
  refine lv_if_eq (tgt := 30) hx hb dX10_formattedByte_18 (by decide) (fun h9 => ?_) (fun h9 => ?_)
  · have hf := ctf (bI_0 h9) hf
    refine lv_iconst (v := -1) hx hb dX10_formattedByte_30 (by decide) ?_
    cases hf
    exact g_iret S hr hlocks hP hD hS dX10_formattedByte_31
  · have hf := ctt (bI_1 h9) hf
    refine lv_aload_n hx hb dX10_formattedByte_21 rfl (lv_at hl 0 rfl) ?_
    refine va_get (D := (dC, dI)) (ci := 10) (v := .ref (ad 22)) (C := RX10) (T := TX10) (N := 37) hx hb htg inX10 hown hE.1 hP 0 rfl rfl 21 (by decide) (htg _ tw1403) (fun _ h9 => h9) rfl dX10_formattedByte_22 ?_
    refine lv_iload_n hx hb dX10_formattedByte_25 rfl (lv_at hl 1 rfl) ?_
    obtain ⟨h9, hf⟩ := gd_s hf
    refine va_iald hx hb hE.1 hP 1 0 rfl rfl h9 dX10_formattedByte_26 ?_
    refine lv_goto (tgt := 31) hx hb dX10_formattedByte_27 (by decide) ?_
    cases hf
    exact g_iret S hr hlocks hP hD hS dX10_formattedByte_31
def p10_addUnion (m_fam : Nat → Int64) (v1 : Int32) (v2 : Int32) (v3 : Int32) : Option ((Nat → Int64)) := ob (p10_unions m_fam) (fun r4 => lb ((66 : Int32) + ((3 : Int32) * r4)) (fun t9 => gd t9 130 (lb (vp_updL m_fam t9.toNatClampNeg v1.toInt64) (fun g19 => gd (t9 + (1 : Int32)) 130 (lb (vp_updL g19 (t9 + (1 : Int32)).toNatClampNeg v2.toInt64) (fun g30 => gd (t9 + (2 : Int32)) 130 (lb (vp_updL g30 (t9 + (2 : Int32)).toNatClampNeg v3.toInt64) (fun g41 => gd (1 : Int32) 130 (gd (1 : Int32) 130 (lb (vp_updL g41 (1 : Int32).toNatClampNeg ((g41 (1 : Int32).toNatClampNeg) + (1 : Int64))) (fun g51 => some g51)))))))))))
set_option maxHeartbeats 4000000 in
set_option maxRecDepth 100000 in
theorem c_X10_addUnion (ad : Nat → Nat) (a_m_fam : Nat) (m_undoCount : Int32) (m_thrown : Int32) (m_hasSnapshot : Bool) (m_rows : Int32) (m_lineLength : Int32) (m_formattedLength : Int32) (m_bufferLength : Int32) (m_limit : Int32) (m_next : Int32) (m_beginsAt : Int32) (m_token : Int32) (m_error : Int32) (m_errorAt : Int32) (m_errorPosition : Int32) (m_nested : Int32) (m_codeCount : Int32) (m_fam : Nat → Int64) (v1 : Int32) (v2 : Int32) (v3 : Int32) (m_fam_9 : Nat → Int64) (hf : p10_addUnion m_fam v1 v2 v3 = some m_fam_9) : gM l dC dI cI cJ cZ yX10_addUnion cX10_addUnion 5 none (1) (20) [.ref (ad 0), .int v1, .int v2, .int v3] [(ad 0, .inr (10, oM ad m_undoCount m_thrown m_hasSnapshot a_m_fam m_rows m_lineLength m_formattedLength m_bufferLength m_limit m_next m_beginsAt m_token m_error m_errorAt m_errorPosition m_nested m_codeCount)), (a_m_fam, .inl (cJ, 130, .inr (.inl m_fam)))] [(ad 0, .inr (10, oM ad m_undoCount m_thrown m_hasSnapshot a_m_fam m_rows m_lineLength m_formattedLength m_bufferLength m_limit m_next m_beginsAt m_token m_error m_errorAt m_errorPosition m_nested m_codeCount)), (a_m_fam, .inl (cJ, 130, .inr (.inl m_fam_9)))] none := by
  refine g_start (own := RX10) (by decide +kernel) rfl (Nat.le_of_ble_eq_true rfl) ?_
  intro p e s m below meth c A ls S hr hlocks hE hP hD hS hA hl hin
  have hx := S.1
  have hb := S.2.1
  have hml := S.2.2.1
  have hown := S.2.2.2.1
  have htg : ∀ z ∈ gw, z.before ([.ref (ad 0), .int v1, .int v2, .int v3] : List Value).toArray s = true := fun w h => S.2.2.2.2 w (List.mem_cons_of_mem _ h)
  have hl : lv_has ls 5 [(0, .ref (ad 0)), (1, .int v1), (2, .int v2), (3, .int v3)] := hl
  have hS0 := hS
  obtain ⟨H, hH⟩ : ∃ H, H = s.heap := ⟨_, rfl⟩
  obtain ⟨locs, hlc⟩ : ∃ locs : List Loc, locs = [] := ⟨_, rfl⟩
  have hS : va_S A s.heap H locs := by rw [hH, hlc]; exact hS0
  have hP : va_P (dC, dI) vwCl [(ad 0, .inr (10, oM ad m_undoCount m_thrown m_hasSnapshot a_m_fam m_rows m_lineLength m_formattedLength m_bufferLength m_limit m_next m_beginsAt m_token m_error m_errorAt m_errorPosition m_nested m_codeCount)), (a_m_fam, .inl (cJ, 130, .inr (.inl m_fam)))] H := by rw [hH]; exact hP
  suffices hgo : W p l e ({ frames := 1, cells := 0, slots := 0, locals := 20 }) s m ([.ref (ad 0), .int v1, .int v2, .int v3] : List Value).toArray below meth c H locs 0 0 (MQ below (gQ dC dI none A [(ad 0, .inr (10, oM ad m_undoCount m_thrown m_hasSnapshot a_m_fam m_rows m_lineLength m_formattedLength m_bufferLength m_limit m_next m_beginsAt m_token m_error m_errorAt m_errorPosition m_nested m_codeCount)), (a_m_fam, .inl (cJ, 130, .inr (.inl m_fam_9)))]) ([.ref (ad 0), .int v1, .int v2, .int v3] : List Value).toArray s 0 0 A) (F0 m 0 ls []) by rw [hH, hlc] at hgo; exact hgo
  rw [p10_addUnion] at hf
  refine lv_bipush (v := 66) hx hb dX10_addUnion_0 (by decide) ?_
  refine lv_iconst (v := 3) hx hb dX10_addUnion_2 (by decide) ?_
  refine lv_aload_n hx hb dX10_addUnion_3 rfl (lv_at hl 0 rfl) ?_
  obtain ⟨r4, h9, hf⟩ := ob_s hf
  refine gcV (index := 110) S hE (c_X10_unions ad a_m_fam m_undoCount m_thrown m_hasSnapshot m_rows m_lineLength m_formattedLength m_bufferLength m_limit m_next m_beginsAt m_token m_error m_errorAt m_errorPosition m_nested m_codeCount m_fam r4 h9) mX10_unions tw1532 ⟨Nat.le_of_ble_eq_true rfl, Nat.le_of_ble_eq_true rfl⟩ hP hD hS hA ⟨Nat.zero_le _, Nat.zero_le _⟩ 0 10 rfl rfl rfl (wr := []) [0, 1] [] rfl rfl rfl rfl (by decide) (As := []) (rest := [.int (3 : Int32), .int (66 : Int32)]) rfl hl.1 rfl (Nat.le_of_ble_eq_true rfl) dX10_addUnion_4 (fun H locs hP hD hS => ?_)
  refine W.eq (g2 := F0 m 7 ls [.int r4, .int (3 : Int32), .int (66 : Int32)]) rfl ?_
  have hP : va_P (dC, dI) vwCl [(ad 0, .inr (10, oM ad m_undoCount m_thrown m_hasSnapshot a_m_fam m_rows m_lineLength m_formattedLength m_bufferLength m_limit m_next m_beginsAt m_token m_error m_errorAt m_errorPosition m_nested m_codeCount)), (a_m_fam, .inl (cJ, 130, .inr (.inl m_fam)))] H := hP
  have hD : va_D A [(ad 0, .inr (10, oM ad m_undoCount m_thrown m_hasSnapshot a_m_fam m_rows m_lineLength m_formattedLength m_bufferLength m_limit m_next m_beginsAt m_token m_error m_errorAt m_errorPosition m_nested m_codeCount)), (a_m_fam, .inl (cJ, 130, .inr (.inl m_fam)))] := hD
  refine lv_imul hx hb dX10_addUnion_7 ?_
  refine lv_iadd hx hb dX10_addUnion_8 ?_
  refine lv_topi (fun t9 h9 => ?_)
  have hf := lb_e h9 hf
  refine lv_istore (lv' := [(4, .int t9), (0, .ref (ad 0)), (1, .int v1), (2, .int v2), (3, .int v3)]) hx hb dX10_addUnion_9 hl (by decide) rfl (fun ls hl => ?_)
  refine lv_aload_n hx hb dX10_addUnion_11 rfl (lv_at hl 1 rfl) ?_
  refine va_get (D := (dC, dI)) (ci := 10) (v := .ref a_m_fam) (C := RX10) (T := TX10) (N := 37) hx hb htg inX10 hown hE.1 hP 0 rfl rfl 7 (by decide) (htg _ tw1389) (fun _ h9 => h9) rfl dX10_addUnion_12 ?_
  refine lv_iload hx hb dX10_addUnion_15 (lv_at hl 0 rfl) ?_
  refine lv_iload_n hx hb dX10_addUnion_17 rfl (lv_at hl 2 rfl) ?_
  refine lv_i2l hx hb dX10_addUnion_18 rfl ?_
  obtain ⟨h9, hf⟩ := gd_s hf
  refine va_last hx hb hE.1 hP hD hS 1 1 rfl rfl h9 dX10_addUnion_19 (fun H locs hP hD hS => ?_)
  obtain ⟨g19, h9⟩ : ∃ z, z = (vp_updL m_fam t9.toNatClampNeg v1.toInt64) := ⟨_, rfl⟩
  have hf := lb_e h9 hf
  have hP : va_P (dC, dI) vwCl [(ad 0, .inr (10, oM ad m_undoCount m_thrown m_hasSnapshot a_m_fam m_rows m_lineLength m_formattedLength m_bufferLength m_limit m_next m_beginsAt m_token m_error m_errorAt m_errorPosition m_nested m_codeCount)), (a_m_fam, .inl (cJ, 130, .inr (.inl g19)))] H := by rw [h9]; exact hP
  have hD : va_D A [(ad 0, .inr (10, oM ad m_undoCount m_thrown m_hasSnapshot a_m_fam m_rows m_lineLength m_formattedLength m_bufferLength m_limit m_next m_beginsAt m_token m_error m_errorAt m_errorPosition m_nested m_codeCount)), (a_m_fam, .inl (cJ, 130, .inr (.inl g19)))] := by rw [h9]; exact hD
  refine lv_aload_n hx hb dX10_addUnion_20 rfl (lv_at hl 1 rfl) ?_
  refine va_get (D := (dC, dI)) (ci := 10) (v := .ref a_m_fam) (C := RX10) (T := TX10) (N := 37) hx hb htg inX10 hown hE.1 hP 0 rfl rfl 7 (by decide) (htg _ tw1389) (fun _ h9 => h9) rfl dX10_addUnion_21 ?_
  refine lv_iload hx hb dX10_addUnion_24 (lv_at hl 0 rfl) ?_
  refine lv_iconst (v := 1) hx hb dX10_addUnion_26 (by decide) ?_
  refine lv_iadd hx hb dX10_addUnion_27 ?_
  refine lv_iload_n hx hb dX10_addUnion_28 rfl (lv_at hl 3 rfl) ?_
  refine lv_i2l hx hb dX10_addUnion_29 rfl ?_
  obtain ⟨h9, hf⟩ := gd_s hf
  refine va_last hx hb hE.1 hP hD hS 1 1 rfl rfl h9 dX10_addUnion_30 (fun H locs hP hD hS => ?_)
  obtain ⟨g30, h9⟩ : ∃ z, z = (vp_updL g19 (t9 + (1 : Int32)).toNatClampNeg v2.toInt64) := ⟨_, rfl⟩
  have hf := lb_e h9 hf
  have hP : va_P (dC, dI) vwCl [(ad 0, .inr (10, oM ad m_undoCount m_thrown m_hasSnapshot a_m_fam m_rows m_lineLength m_formattedLength m_bufferLength m_limit m_next m_beginsAt m_token m_error m_errorAt m_errorPosition m_nested m_codeCount)), (a_m_fam, .inl (cJ, 130, .inr (.inl g30)))] H := by rw [h9]; exact hP
  have hD : va_D A [(ad 0, .inr (10, oM ad m_undoCount m_thrown m_hasSnapshot a_m_fam m_rows m_lineLength m_formattedLength m_bufferLength m_limit m_next m_beginsAt m_token m_error m_errorAt m_errorPosition m_nested m_codeCount)), (a_m_fam, .inl (cJ, 130, .inr (.inl g30)))] := by rw [h9]; exact hD
  refine lv_aload_n hx hb dX10_addUnion_31 rfl (lv_at hl 1 rfl) ?_
  refine va_get (D := (dC, dI)) (ci := 10) (v := .ref a_m_fam) (C := RX10) (T := TX10) (N := 37) hx hb htg inX10 hown hE.1 hP 0 rfl rfl 7 (by decide) (htg _ tw1389) (fun _ h9 => h9) rfl dX10_addUnion_32 ?_
  refine lv_iload hx hb dX10_addUnion_35 (lv_at hl 0 rfl) ?_
  refine lv_iconst (v := 2) hx hb dX10_addUnion_37 (by decide) ?_
  refine lv_iadd hx hb dX10_addUnion_38 ?_
  refine lv_iload_n hx hb dX10_addUnion_39 rfl (lv_at hl 4 rfl) ?_
  refine lv_i2l hx hb dX10_addUnion_40 rfl ?_
  obtain ⟨h9, hf⟩ := gd_s hf
  refine va_last hx hb hE.1 hP hD hS 1 1 rfl rfl h9 dX10_addUnion_41 (fun H locs hP hD hS => ?_)
  obtain ⟨g41, h9⟩ : ∃ z, z = (vp_updL g30 (t9 + (2 : Int32)).toNatClampNeg v3.toInt64) := ⟨_, rfl⟩
  have hf := lb_e h9 hf
  have hP : va_P (dC, dI) vwCl [(ad 0, .inr (10, oM ad m_undoCount m_thrown m_hasSnapshot a_m_fam m_rows m_lineLength m_formattedLength m_bufferLength m_limit m_next m_beginsAt m_token m_error m_errorAt m_errorPosition m_nested m_codeCount)), (a_m_fam, .inl (cJ, 130, .inr (.inl g41)))] H := by rw [h9]; exact hP
  have hD : va_D A [(ad 0, .inr (10, oM ad m_undoCount m_thrown m_hasSnapshot a_m_fam m_rows m_lineLength m_formattedLength m_bufferLength m_limit m_next m_beginsAt m_token m_error m_errorAt m_errorPosition m_nested m_codeCount)), (a_m_fam, .inl (cJ, 130, .inr (.inl g41)))] := by rw [h9]; exact hD
  refine lv_aload_n hx hb dX10_addUnion_42 rfl (lv_at hl 1 rfl) ?_
  refine va_get (D := (dC, dI)) (ci := 10) (v := .ref a_m_fam) (C := RX10) (T := TX10) (N := 37) hx hb htg inX10 hown hE.1 hP 0 rfl rfl 7 (by decide) (htg _ tw1389) (fun _ h9 => h9) rfl dX10_addUnion_43 ?_
  refine lv_iconst (v := 1) hx hb dX10_addUnion_46 (by decide) ?_
  refine lv_dup2_11 hx hb dX10_addUnion_47 rfl rfl ?_
  obtain ⟨h9, hf⟩ := gd_s hf
  refine va_lald hx hb hE.1 hP 1 1 rfl rfl h9 dX10_addUnion_48 ?_
  refine lv_lconst (v := 1) hx hb dX10_addUnion_49 (by decide) ?_
  refine lv_ladd hx hb dX10_addUnion_50 ?_
  obtain ⟨h9, hf⟩ := gd_s hf
  refine va_last hx hb hE.1 hP hD hS 1 1 rfl rfl h9 dX10_addUnion_51 (fun H locs hP hD hS => ?_)
  obtain ⟨g51, h9⟩ : ∃ z, z = (vp_updL g41 (1 : Int32).toNatClampNeg ((g41 (1 : Int32).toNatClampNeg) + (1 : Int64))) := ⟨_, rfl⟩
  have hf := lb_e h9 hf
  have hP : va_P (dC, dI) vwCl [(ad 0, .inr (10, oM ad m_undoCount m_thrown m_hasSnapshot a_m_fam m_rows m_lineLength m_formattedLength m_bufferLength m_limit m_next m_beginsAt m_token m_error m_errorAt m_errorPosition m_nested m_codeCount)), (a_m_fam, .inl (cJ, 130, .inr (.inl g51)))] H := by rw [h9]; exact hP
  have hD : va_D A [(ad 0, .inr (10, oM ad m_undoCount m_thrown m_hasSnapshot a_m_fam m_rows m_lineLength m_formattedLength m_bufferLength m_limit m_next m_beginsAt m_token m_error m_errorAt m_errorPosition m_nested m_codeCount)), (a_m_fam, .inl (cJ, 130, .inr (.inl g51)))] := by rw [h9]; exact hD
  cases hf
  exact g_vret S hr hlocks hP hD hS dX10_addUnion_52
def p10_isAncestorOfBoth (m_fam : Nat → Int64) (v1 : Int32) (v2 : Int32) : Option (Bool) := ob (p10_partner m_fam v1 (0 : Int32)) (fun r4 => ob (p10_ancestorMask m_fam r4) (fun r7 => ob (p10_partner m_fam v1 (1 : Int32)) (fun r14 => ob (p10_ancestorMask m_fam r14) (fun r17 => lb (r7 ||| r17) (fun t21 => ob (p10_isPartner m_fam v1 v2) (fun r25 => (cond r25 (some true) (if ((t21 >>> (v2 &&& 31)) &&& (1 : Int32)) = (1 : Int32) then some true else some false))))))))
set_option maxHeartbeats 4000000 in
set_option maxRecDepth 100000 in
theorem c_X10_isAncestorOfBoth (ad : Nat → Nat) (a_m_fam : Nat) (m_undoCount : Int32) (m_thrown : Int32) (m_hasSnapshot : Bool) (m_rows : Int32) (m_lineLength : Int32) (m_formattedLength : Int32) (m_bufferLength : Int32) (m_limit : Int32) (m_next : Int32) (m_beginsAt : Int32) (m_token : Int32) (m_error : Int32) (m_errorAt : Int32) (m_errorPosition : Int32) (m_nested : Int32) (m_codeCount : Int32) (m_fam : Nat → Int64) (v1 : Int32) (v2 : Int32) (r9 : Bool) (hf : p10_isAncestorOfBoth m_fam v1 v2 = some r9) : gM l dC dI cI cJ cZ yX10_isAncestorOfBoth cX10_isAncestorOfBoth 4 (some .boolean) (3) (70) [.ref (ad 0), .int v1, .int v2] [(ad 0, .inr (10, oM ad m_undoCount m_thrown m_hasSnapshot a_m_fam m_rows m_lineLength m_formattedLength m_bufferLength m_limit m_next m_beginsAt m_token m_error m_errorAt m_errorPosition m_nested m_codeCount)), (a_m_fam, .inl (cJ, 130, .inr (.inl m_fam)))] [(ad 0, .inr (10, oM ad m_undoCount m_thrown m_hasSnapshot a_m_fam m_rows m_lineLength m_formattedLength m_bufferLength m_limit m_next m_beginsAt m_token m_error m_errorAt m_errorPosition m_nested m_codeCount)), (a_m_fam, .inl (cJ, 130, .inr (.inl m_fam)))] (some (.int (bI r9))) := by
  refine g_start (own := RX10) (by decide +kernel) rfl (Nat.le_of_ble_eq_true rfl) ?_
  intro p e s m below meth c A ls S hr hlocks hE hP hD hS hA hl hin
  have hx := S.1
  have hb := S.2.1
  have hml := S.2.2.1
  have hown := S.2.2.2.1
  have htg : ∀ z ∈ gw, z.before ([.ref (ad 0), .int v1, .int v2] : List Value).toArray s = true := fun w h => S.2.2.2.2 w (List.mem_cons_of_mem _ h)
  have hl : lv_has ls 4 [(0, .ref (ad 0)), (1, .int v1), (2, .int v2)] := hl
  have hS0 := hS
  obtain ⟨H, hH⟩ : ∃ H, H = s.heap := ⟨_, rfl⟩
  obtain ⟨locs, hlc⟩ : ∃ locs : List Loc, locs = [] := ⟨_, rfl⟩
  have hS : va_S A s.heap H locs := by rw [hH, hlc]; exact hS0
  have hP : va_P (dC, dI) vwCl [(ad 0, .inr (10, oM ad m_undoCount m_thrown m_hasSnapshot a_m_fam m_rows m_lineLength m_formattedLength m_bufferLength m_limit m_next m_beginsAt m_token m_error m_errorAt m_errorPosition m_nested m_codeCount)), (a_m_fam, .inl (cJ, 130, .inr (.inl m_fam)))] H := by rw [hH]; exact hP
  suffices hgo : W p l e ({ frames := 3, cells := 0, slots := 0, locals := 70 }) s m ([.ref (ad 0), .int v1, .int v2] : List Value).toArray below meth c H locs 0 0 (MQ below (gQ dC dI (some (.int (bI r9))) A [(ad 0, .inr (10, oM ad m_undoCount m_thrown m_hasSnapshot a_m_fam m_rows m_lineLength m_formattedLength m_bufferLength m_limit m_next m_beginsAt m_token m_error m_errorAt m_errorPosition m_nested m_codeCount)), (a_m_fam, .inl (cJ, 130, .inr (.inl m_fam)))]) ([.ref (ad 0), .int v1, .int v2] : List Value).toArray s 0 0 A) (F0 m 0 ls []) by rw [hH, hlc] at hgo; exact hgo
  rw [p10_isAncestorOfBoth] at hf
  refine lv_aload_n hx hb dX10_isAncestorOfBoth_0 rfl (lv_at hl 0 rfl) ?_
  refine lv_aload_n hx hb dX10_isAncestorOfBoth_1 rfl (lv_at hl 0 rfl) ?_
  refine lv_iload_n hx hb dX10_isAncestorOfBoth_2 rfl (lv_at hl 1 rfl) ?_
  refine lv_iconst (v := 0) hx hb dX10_isAncestorOfBoth_3 (by decide) ?_
  obtain ⟨r4, h9, hf⟩ := ob_s hf
  refine gcV (index := 102) S hE (c_X10_partner ad a_m_fam m_undoCount m_thrown m_hasSnapshot m_rows m_lineLength m_formattedLength m_bufferLength m_limit m_next m_beginsAt m_token m_error m_errorAt m_errorPosition m_nested m_codeCount m_fam v1 (0 : Int32) r4 h9) mX10_partner tw1527 ⟨Nat.le_of_ble_eq_true rfl, Nat.le_of_ble_eq_true rfl⟩ hP hD hS hA ⟨Nat.zero_le _, Nat.zero_le _⟩ 0 10 rfl rfl rfl (wr := []) [0, 1] [] rfl rfl rfl rfl (by decide) (As := [.int v1, .int (0 : Int32)]) (rest := [.ref (ad 0)]) rfl hl.1 rfl (Nat.le_of_ble_eq_true rfl) dX10_isAncestorOfBoth_4 (fun H locs hP hD hS => ?_)
  refine W.eq (g2 := F0 m 7 ls [.int r4, .ref (ad 0)]) rfl ?_
  have hP : va_P (dC, dI) vwCl [(ad 0, .inr (10, oM ad m_undoCount m_thrown m_hasSnapshot a_m_fam m_rows m_lineLength m_formattedLength m_bufferLength m_limit m_next m_beginsAt m_token m_error m_errorAt m_errorPosition m_nested m_codeCount)), (a_m_fam, .inl (cJ, 130, .inr (.inl m_fam)))] H := hP
  have hD : va_D A [(ad 0, .inr (10, oM ad m_undoCount m_thrown m_hasSnapshot a_m_fam m_rows m_lineLength m_formattedLength m_bufferLength m_limit m_next m_beginsAt m_token m_error m_errorAt m_errorPosition m_nested m_codeCount)), (a_m_fam, .inl (cJ, 130, .inr (.inl m_fam)))] := hD
  obtain ⟨r7, h9, hf⟩ := ob_s hf
  refine gcV (index := 254) S hE (c_X10_ancestorMask ad a_m_fam m_undoCount m_thrown m_hasSnapshot m_rows m_lineLength m_formattedLength m_bufferLength m_limit m_next m_beginsAt m_token m_error m_errorAt m_errorPosition m_nested m_codeCount m_fam r4 r7 h9) mX10_ancestorMask tw1648 ⟨Nat.le_of_ble_eq_true rfl, Nat.le_of_ble_eq_true rfl⟩ hP hD hS hA ⟨Nat.zero_le _, Nat.zero_le _⟩ 0 10 rfl rfl rfl (wr := []) [0, 1] [] rfl rfl rfl rfl (by decide) (As := [.int r4]) (rest := []) rfl hl.1 rfl (Nat.le_of_ble_eq_true rfl) dX10_isAncestorOfBoth_7 (fun H locs hP hD hS => ?_)
  refine W.eq (g2 := F0 m 10 ls [.int r7]) rfl ?_
  have hP : va_P (dC, dI) vwCl [(ad 0, .inr (10, oM ad m_undoCount m_thrown m_hasSnapshot a_m_fam m_rows m_lineLength m_formattedLength m_bufferLength m_limit m_next m_beginsAt m_token m_error m_errorAt m_errorPosition m_nested m_codeCount)), (a_m_fam, .inl (cJ, 130, .inr (.inl m_fam)))] H := hP
  have hD : va_D A [(ad 0, .inr (10, oM ad m_undoCount m_thrown m_hasSnapshot a_m_fam m_rows m_lineLength m_formattedLength m_bufferLength m_limit m_next m_beginsAt m_token m_error m_errorAt m_errorPosition m_nested m_codeCount)), (a_m_fam, .inl (cJ, 130, .inr (.inl m_fam)))] := hD
  refine lv_aload_n hx hb dX10_isAncestorOfBoth_10 rfl (lv_at hl 0 rfl) ?_
  refine lv_aload_n hx hb dX10_isAncestorOfBoth_11 rfl (lv_at hl 0 rfl) ?_
  refine lv_iload_n hx hb dX10_isAncestorOfBoth_12 rfl (lv_at hl 1 rfl) ?_
  refine lv_iconst (v := 1) hx hb dX10_isAncestorOfBoth_13 (by decide) ?_
  obtain ⟨r14, h9, hf⟩ := ob_s hf
  refine gcV (index := 102) S hE (c_X10_partner ad a_m_fam m_undoCount m_thrown m_hasSnapshot m_rows m_lineLength m_formattedLength m_bufferLength m_limit m_next m_beginsAt m_token m_error m_errorAt m_errorPosition m_nested m_codeCount m_fam v1 (1 : Int32) r14 h9) mX10_partner tw1527 ⟨Nat.le_of_ble_eq_true rfl, Nat.le_of_ble_eq_true rfl⟩ hP hD hS hA ⟨Nat.zero_le _, Nat.zero_le _⟩ 0 10 rfl rfl rfl (wr := []) [0, 1] [] rfl rfl rfl rfl (by decide) (As := [.int v1, .int (1 : Int32)]) (rest := [.ref (ad 0), .int r7]) rfl hl.1 rfl (Nat.le_of_ble_eq_true rfl) dX10_isAncestorOfBoth_14 (fun H locs hP hD hS => ?_)
  refine W.eq (g2 := F0 m 17 ls [.int r14, .ref (ad 0), .int r7]) rfl ?_
  have hP : va_P (dC, dI) vwCl [(ad 0, .inr (10, oM ad m_undoCount m_thrown m_hasSnapshot a_m_fam m_rows m_lineLength m_formattedLength m_bufferLength m_limit m_next m_beginsAt m_token m_error m_errorAt m_errorPosition m_nested m_codeCount)), (a_m_fam, .inl (cJ, 130, .inr (.inl m_fam)))] H := hP
  have hD : va_D A [(ad 0, .inr (10, oM ad m_undoCount m_thrown m_hasSnapshot a_m_fam m_rows m_lineLength m_formattedLength m_bufferLength m_limit m_next m_beginsAt m_token m_error m_errorAt m_errorPosition m_nested m_codeCount)), (a_m_fam, .inl (cJ, 130, .inr (.inl m_fam)))] := hD
  obtain ⟨r17, h9, hf⟩ := ob_s hf
  refine gcV (index := 254) S hE (c_X10_ancestorMask ad a_m_fam m_undoCount m_thrown m_hasSnapshot m_rows m_lineLength m_formattedLength m_bufferLength m_limit m_next m_beginsAt m_token m_error m_errorAt m_errorPosition m_nested m_codeCount m_fam r14 r17 h9) mX10_ancestorMask tw1648 ⟨Nat.le_of_ble_eq_true rfl, Nat.le_of_ble_eq_true rfl⟩ hP hD hS hA ⟨Nat.zero_le _, Nat.zero_le _⟩ 0 10 rfl rfl rfl (wr := []) [0, 1] [] rfl rfl rfl rfl (by decide) (As := [.int r14]) (rest := [.int r7]) rfl hl.1 rfl (Nat.le_of_ble_eq_true rfl) dX10_isAncestorOfBoth_17 (fun H locs hP hD hS => ?_)
  refine W.eq (g2 := F0 m 20 ls [.int r17, .int r7]) rfl ?_
  have hP : va_P (dC, dI) vwCl [(ad 0, .inr (10, oM ad m_undoCount m_thrown m_hasSnapshot a_m_fam m_rows m_lineLength m_formattedLength m_bufferLength m_limit m_next m_beginsAt m_token m_error m_errorAt m_errorPosition m_nested m_codeCount)), (a_m_fam, .inl (cJ, 130, .inr (.inl m_fam)))] H := hP
  have hD : va_D A [(ad 0, .inr (10, oM ad m_undoCount m_thrown m_hasSnapshot a_m_fam m_rows m_lineLength m_formattedLength m_bufferLength m_limit m_next m_beginsAt m_token m_error m_errorAt m_errorPosition m_nested m_codeCount)), (a_m_fam, .inl (cJ, 130, .inr (.inl m_fam)))] := hD
  refine lv_ior hx hb dX10_isAncestorOfBoth_20 ?_
  refine lv_topi (fun t21 h9 => ?_)
  have hf := lb_e h9 hf
  refine lv_istore_n (lv' := [(3, .int t21), (0, .ref (ad 0)), (1, .int v1), (2, .int v2)]) hx hb dX10_isAncestorOfBoth_21 rfl hl (by decide) rfl (fun ls hl => ?_)
  refine lv_aload_n hx hb dX10_isAncestorOfBoth_22 rfl (lv_at hl 1 rfl) ?_
  refine lv_iload_n hx hb dX10_isAncestorOfBoth_23 rfl (lv_at hl 2 rfl) ?_
  refine lv_iload_n hx hb dX10_isAncestorOfBoth_24 rfl (lv_at hl 3 rfl) ?_
  obtain ⟨r25, h9, hf⟩ := ob_s hf
  refine gcV (index := 113) S hE (c_X10_isPartner ad a_m_fam m_undoCount m_thrown m_hasSnapshot m_rows m_lineLength m_formattedLength m_bufferLength m_limit m_next m_beginsAt m_token m_error m_errorAt m_errorPosition m_nested m_codeCount m_fam v1 v2 r25 h9) mX10_isPartner tw1564 ⟨Nat.le_of_ble_eq_true rfl, Nat.le_of_ble_eq_true rfl⟩ hP hD hS hA ⟨Nat.zero_le _, Nat.zero_le _⟩ 0 10 rfl rfl rfl (wr := []) [0, 1] [] rfl rfl rfl rfl (by decide) (As := [.int v1, .int v2]) (rest := []) rfl hl.1 rfl (Nat.le_of_ble_eq_true rfl) dX10_isAncestorOfBoth_25 (fun H locs hP hD hS => ?_)
  refine W.eq (g2 := F0 m 28 ls [.int (bI r25)]) rfl ?_
  have hP : va_P (dC, dI) vwCl [(ad 0, .inr (10, oM ad m_undoCount m_thrown m_hasSnapshot a_m_fam m_rows m_lineLength m_formattedLength m_bufferLength m_limit m_next m_beginsAt m_token m_error m_errorAt m_errorPosition m_nested m_codeCount)), (a_m_fam, .inl (cJ, 130, .inr (.inl m_fam)))] H := hP
  have hD : va_D A [(ad 0, .inr (10, oM ad m_undoCount m_thrown m_hasSnapshot a_m_fam m_rows m_lineLength m_formattedLength m_bufferLength m_limit m_next m_beginsAt m_token m_error m_errorAt m_errorPosition m_nested m_codeCount)), (a_m_fam, .inl (cJ, 130, .inr (.inl m_fam)))] := hD
  refine lv_if_ne (tgt := 40) hx hb dX10_isAncestorOfBoth_28 (by decide) (fun h9 => ?_) (fun h9 => ?_)
  · have hf := ctt (bI_1 h9) hf
    refine lv_iconst (v := 1) hx hb dX10_isAncestorOfBoth_40 (by decide) ?_
    refine lv_goto (tgt := 45) hx hb dX10_isAncestorOfBoth_41 (by decide) ?_
    cases hf
    exact g_zret S hr (nar_bI true) hlocks hP hD hS dX10_isAncestorOfBoth_45
  · have hf := ctf (bI_0 h9) hf
    refine lv_iload_n hx hb dX10_isAncestorOfBoth_31 rfl (lv_at hl 0 rfl) ?_
    refine lv_iload_n hx hb dX10_isAncestorOfBoth_32 rfl (lv_at hl 3 rfl) ?_
    refine lv_ishr hx hb dX10_isAncestorOfBoth_33 ?_
    refine lv_iconst (v := 1) hx hb dX10_isAncestorOfBoth_34 (by decide) ?_
    refine lv_iand hx hb dX10_isAncestorOfBoth_35 ?_
    refine lv_iconst (v := 1) hx hb dX10_isAncestorOfBoth_36 (by decide) ?_
    refine lv_icmp_ne (tgt := 44) hx hb dX10_isAncestorOfBoth_37 (by decide) (fun h9 => ?_) (fun h9 => ?_)
    · have hf := itf h9 hf
      refine lv_iconst (v := 0) hx hb dX10_isAncestorOfBoth_44 (by decide) ?_
      cases hf
      exact g_zret S hr (nar_bI false) hlocks hP hD hS dX10_isAncestorOfBoth_45
    · have hf := itt h9 hf
      refine lv_iconst (v := 1) hx hb dX10_isAncestorOfBoth_40 (by decide) ?_
      refine lv_goto (tgt := 45) hx hb dX10_isAncestorOfBoth_41 (by decide) ?_
      cases hf
      exact g_zret S hr (nar_bI true) hlocks hP hD hS dX10_isAncestorOfBoth_45
def p10_improveOnce_J77 (v1_77 : Int32) (m_boxAt_77 : Nat → Int32) (m_fam_77 : Nat → Int64) : Option (Int32 × (Nat → Int32) × (Nat → Int64)) := some (v1_77, m_boxAt_77, m_fam_77)
def p10_improveOnce_J71 (k4 : Int32 → Int32 → (Nat → Int32) → (Nat → Int64) → Option (Int32 × (Nat → Int32) × (Nat → Int64))) (v2_4 : Int32) (v1_71 : Int32) (m_boxAt_71 : Nat → Int32) (m_fam_71 : Nat → Int64) : Option (Int32 × (Nat → Int32) × (Nat → Int64)) := lb (v2_4 + (1 : Int32)) (fun t71 => (k4 v1_71 t71 m_boxAt_71 m_fam_71))
def p10_improveOnce_L14_B (m_generation : Nat → Int32) (m_level : Nat → Int32) (m_rowSize : Nat → Int32) (m_rows : Int32) (v2_4 : Int32) (k14 : Int32 → Int32 → (Nat → Int32) → (Nat → Int64) → Option (Int32 × (Nat → Int32) × (Nat → Int64))) (v1_14 : Int32) (v3_14 : Int32) (m_boxAt_14 : Nat → Int32) (m_fam_14 : Nat → Int64) : Option (Int32 × (Nat → Int32) × (Nat → Int64)) := gd v2_4 16 ((if (m_rowSize v2_4.toNatClampNeg) ≤ (v3_14 + (1 : Int32)) then some (v1_14, m_boxAt_14, m_fam_14) else ob (p10_allCrossings m_rows m_fam_14 m_generation m_level) (fun r27 => ob (p10_exchange m_boxAt_14 m_fam_14 v2_4 v3_14 (v3_14 + (1 : Int32))) (uc2 fun m_boxAt_38 m_fam_38 => ob (p10_allCrossings m_rows m_fam_38 m_generation m_level) (fun r42 => (if r27 ≤ r42 then ob (p10_exchange m_boxAt_38 m_fam_38 v2_4 v3_14 (v3_14 + (1 : Int32))) (uc2 fun m_boxAt_62 m_fam_62 => lb (v3_14 + (1 : Int32)) (fun t65 => (k14 v1_14 t65 m_boxAt_62 m_fam_62))) else lb (v1_14 + (1 : Int32)) (fun t50 => lb (v3_14 + (1 : Int32)) (fun t65 => (k14 t50 t65 m_boxAt_38 m_fam_38)))))))))
def p10_improveOnce_L14 (m_generation : Nat → Int32) (m_level : Nat → Int32) (m_rowSize : Nat → Int32) (m_rows : Int32) (v2_4 : Int32) : Nat → Int32 → Int32 → (Nat → Int32) → (Nat → Int64) → Option (Int32 × (Nat → Int32) × (Nat → Int64))
  | 0, _, _, _, _ => none
  | n+1, v1_14, v3_14, m_boxAt_14, m_fam_14 => p10_improveOnce_L14_B m_generation m_level m_rowSize m_rows v2_4 (p10_improveOnce_L14 m_generation m_level m_rowSize m_rows v2_4 n) v1_14 v3_14 m_boxAt_14 m_fam_14
def p10_improveOnce_L4_B (m_generation : Nat → Int32) (m_level : Nat → Int32) (m_rowSize : Nat → Int32) (m_rows : Int32) (k4 : Int32 → Int32 → (Nat → Int32) → (Nat → Int64) → Option (Int32 × (Nat → Int32) × (Nat → Int64))) (v1_4 : Int32) (v2_4 : Int32) (m_boxAt_4 : Nat → Int32) (m_fam_4 : Nat → Int64) : Option (Int32 × (Nat → Int32) × (Nat → Int64)) := (if m_rows ≤ v2_4 then some (v1_4, m_boxAt_4, m_fam_4) else (ob (p10_improveOnce_L14 m_generation m_level m_rowSize m_rows v2_4 FU v1_4 (0 : Int32) m_boxAt_4 m_fam_4) (uc3 fun v1_x14 m_boxAt_x14 m_fam_x14 => p10_improveOnce_J71 k4 v2_4 v1_x14 m_boxAt_x14 m_fam_x14)))
def p10_improveOnce_L4 (m_generation : Nat → Int32) (m_level : Nat → Int32) (m_rowSize : Nat → Int32) (m_rows : Int32) : Nat → Int32 → Int32 → (Nat → Int32) → (Nat → Int64) → Option (Int32 × (Nat → Int32) × (Nat → Int64))
  | 0, _, _, _, _ => none
  | n+1, v1_4, v2_4, m_boxAt_4, m_fam_4 => p10_improveOnce_L4_B m_generation m_level m_rowSize m_rows (p10_improveOnce_L4 m_generation m_level m_rowSize m_rows n) v1_4 v2_4 m_boxAt_4 m_fam_4
def p10_improveOnce (m_rows : Int32) (m_boxAt : Nat → Int32) (m_fam : Nat → Int64) (m_generation : Nat → Int32) (m_level : Nat → Int32) (m_rowSize : Nat → Int32) : Option (Int32 × (Nat → Int32) × (Nat → Int64)) := (ob (p10_improveOnce_L4 m_generation m_level m_rowSize m_rows FU (0 : Int32) (0 : Int32) m_boxAt m_fam) (uc3 fun v1_x4 m_boxAt_x4 m_fam_x4 => p10_improveOnce_J77 v1_x4 m_boxAt_x4 m_fam_x4))
set_option maxHeartbeats 4000000 in
set_option maxRecDepth 100000 in
theorem c_X10_improveOnce (ad : Nat → Nat) (a_m_fam : Nat) (m_undoCount : Int32) (m_thrown : Int32) (m_hasSnapshot : Bool) (m_rows : Int32) (m_lineLength : Int32) (m_formattedLength : Int32) (m_bufferLength : Int32) (m_limit : Int32) (m_next : Int32) (m_beginsAt : Int32) (m_token : Int32) (m_error : Int32) (m_errorAt : Int32) (m_errorPosition : Int32) (m_nested : Int32) (m_codeCount : Int32) (m_boxAt : Nat → Int32) (m_fam : Nat → Int64) (m_generation : Nat → Int32) (m_level : Nat → Int32) (m_rowSize : Nat → Int32) (r9 : Int32) (m_boxAt_9 : Nat → Int32) (m_fam_9 : Nat → Int64) (hf : p10_improveOnce m_rows m_boxAt m_fam m_generation m_level m_rowSize = some (r9, m_boxAt_9, m_fam_9)) : gM l dC dI cI cJ cZ yX10_improveOnce cX10_improveOnce 5 (some .int) (5) (118) [.ref (ad 0)] [(ad 0, .inr (10, oM ad m_undoCount m_thrown m_hasSnapshot a_m_fam m_rows m_lineLength m_formattedLength m_bufferLength m_limit m_next m_beginsAt m_token m_error m_errorAt m_errorPosition m_nested m_codeCount)), ((ad 14), .inl (cI, 448, .inl m_boxAt)), (a_m_fam, .inl (cJ, 130, .inr (.inl m_fam))), ((ad 9), .inl (cI, 16, .inl m_generation)), ((ad 10), .inl (cI, 12, .inl m_level)), ((ad 11), .inl (cI, 16, .inl m_rowSize))] [(ad 0, .inr (10, oM ad m_undoCount m_thrown m_hasSnapshot a_m_fam m_rows m_lineLength m_formattedLength m_bufferLength m_limit m_next m_beginsAt m_token m_error m_errorAt m_errorPosition m_nested m_codeCount)), ((ad 14), .inl (cI, 448, .inl m_boxAt_9)), (a_m_fam, .inl (cJ, 130, .inr (.inl m_fam_9))), ((ad 9), .inl (cI, 16, .inl m_generation)), ((ad 10), .inl (cI, 12, .inl m_level)), ((ad 11), .inl (cI, 16, .inl m_rowSize))] (some (.int r9)) := by
  refine g_start (own := RX10) (by decide +kernel) rfl (Nat.le_of_ble_eq_true rfl) ?_
  intro p e s m below meth c A ls S hr hlocks hE hP hD hS hA hl hin
  have hx := S.1
  have hb := S.2.1
  have hml := S.2.2.1
  have hown := S.2.2.2.1
  have htg : ∀ z ∈ gw, z.before ([.ref (ad 0)] : List Value).toArray s = true := fun w h => S.2.2.2.2 w (List.mem_cons_of_mem _ h)
  have hl : lv_has ls 5 [(0, .ref (ad 0))] := hl
  have hS0 := hS
  obtain ⟨H, hH⟩ : ∃ H, H = s.heap := ⟨_, rfl⟩
  obtain ⟨locs, hlc⟩ : ∃ locs : List Loc, locs = [] := ⟨_, rfl⟩
  have hS : va_S A s.heap H locs := by rw [hH, hlc]; exact hS0
  have hP : va_P (dC, dI) vwCl [(ad 0, .inr (10, oM ad m_undoCount m_thrown m_hasSnapshot a_m_fam m_rows m_lineLength m_formattedLength m_bufferLength m_limit m_next m_beginsAt m_token m_error m_errorAt m_errorPosition m_nested m_codeCount)), ((ad 14), .inl (cI, 448, .inl m_boxAt)), (a_m_fam, .inl (cJ, 130, .inr (.inl m_fam))), ((ad 9), .inl (cI, 16, .inl m_generation)), ((ad 10), .inl (cI, 12, .inl m_level)), ((ad 11), .inl (cI, 16, .inl m_rowSize))] H := by rw [hH]; exact hP
  suffices hgo : W p l e ({ frames := 5, cells := 0, slots := 0, locals := 118 }) s m ([.ref (ad 0)] : List Value).toArray below meth c H locs 0 0 (MQ below (gQ dC dI (some (.int r9)) A [(ad 0, .inr (10, oM ad m_undoCount m_thrown m_hasSnapshot a_m_fam m_rows m_lineLength m_formattedLength m_bufferLength m_limit m_next m_beginsAt m_token m_error m_errorAt m_errorPosition m_nested m_codeCount)), ((ad 14), .inl (cI, 448, .inl m_boxAt_9)), (a_m_fam, .inl (cJ, 130, .inr (.inl m_fam_9))), ((ad 9), .inl (cI, 16, .inl m_generation)), ((ad 10), .inl (cI, 12, .inl m_level)), ((ad 11), .inl (cI, 16, .inl m_rowSize))]) ([.ref (ad 0)] : List Value).toArray s 0 0 A) (F0 m 0 ls []) by rw [hH, hlc] at hgo; exact hgo
  rw [p10_improveOnce] at hf
  have J77 : ∀ (v1_77 : Int32) (m_boxAt_77 : Nat → Int32) (m_fam_77 : Nat → Int64) (H : Heap) (locs : List Loc) (ls : Array Slot), p10_improveOnce_J77 v1_77 m_boxAt_77 m_fam_77 = some (r9, m_boxAt_9, m_fam_9) → va_P (dC, dI) vwCl [(ad 0, .inr (10, oM ad m_undoCount m_thrown m_hasSnapshot a_m_fam m_rows m_lineLength m_formattedLength m_bufferLength m_limit m_next m_beginsAt m_token m_error m_errorAt m_errorPosition m_nested m_codeCount)), ((ad 14), .inl (cI, 448, .inl m_boxAt_77)), (a_m_fam, .inl (cJ, 130, .inr (.inl m_fam_77))), ((ad 9), .inl (cI, 16, .inl m_generation)), ((ad 10), .inl (cI, 12, .inl m_level)), ((ad 11), .inl (cI, 16, .inl m_rowSize))] H → va_D A [(ad 0, .inr (10, oM ad m_undoCount m_thrown m_hasSnapshot a_m_fam m_rows m_lineLength m_formattedLength m_bufferLength m_limit m_next m_beginsAt m_token m_error m_errorAt m_errorPosition m_nested m_codeCount)), ((ad 14), .inl (cI, 448, .inl m_boxAt_77)), (a_m_fam, .inl (cJ, 130, .inr (.inl m_fam_77))), ((ad 9), .inl (cI, 16, .inl m_generation)), ((ad 10), .inl (cI, 12, .inl m_level)), ((ad 11), .inl (cI, 16, .inl m_rowSize))] → va_S A s.heap H locs → lv_has ls 5 [(1, .int v1_77)] → W p l e ({ frames := 5, cells := 0, slots := 0, locals := 118 }) s m ([.ref (ad 0)] : List Value).toArray below meth c H locs 0 0 (MQ below (gQ dC dI (some (.int r9)) A [(ad 0, .inr (10, oM ad m_undoCount m_thrown m_hasSnapshot a_m_fam m_rows m_lineLength m_formattedLength m_bufferLength m_limit m_next m_beginsAt m_token m_error m_errorAt m_errorPosition m_nested m_codeCount)), ((ad 14), .inl (cI, 448, .inl m_boxAt_9)), (a_m_fam, .inl (cJ, 130, .inr (.inl m_fam_9))), ((ad 9), .inl (cI, 16, .inl m_generation)), ((ad 10), .inl (cI, 12, .inl m_level)), ((ad 11), .inl (cI, 16, .inl m_rowSize))]) ([.ref (ad 0)] : List Value).toArray s 0 0 A) (F0 m 77 ls []) := by
    intro v1_77 m_boxAt_77 m_fam_77 H locs ls hf hP hD hS hl
    rw [p10_improveOnce_J77] at hf
    refine lv_iload_n hx hb dX10_improveOnce_77 rfl (lv_at hl 0 rfl) ?_
    cases hf
    exact g_iret S hr hlocks hP hD hS dX10_improveOnce_78
  refine lv_iconst (v := 0) hx hb dX10_improveOnce_0 (by decide) ?_
  refine lv_istore_n (lv' := [(1, .int (0 : Int32)), (0, .ref (ad 0))]) hx hb dX10_improveOnce_1 rfl hl (by decide) rfl (fun ls hl => ?_)
  refine lv_iconst (v := 0) hx hb dX10_improveOnce_2 (by decide) ?_
  refine lv_istore_n (lv' := [(2, .int (0 : Int32)), (1, .int (0 : Int32)), (0, .ref (ad 0))]) hx hb dX10_improveOnce_3 rfl hl (by decide) rfl (fun ls hl => ?_)
  have K4 : ∀ (n4 : Nat) (v1_4 : Int32) (v2_4 : Int32) (m_boxAt_4 : Nat → Int32) (m_fam_4 : Nat → Int64) (ex4 : Int32 × (Nat → Int32) × (Nat → Int64)) (H : Heap) (locs : List Loc) (ls : Array Slot), p10_improveOnce_L4 m_generation m_level m_rowSize m_rows n4 v1_4 v2_4 m_boxAt_4 m_fam_4 = some ex4 → (uc3 fun v1_x4 m_boxAt_x4 m_fam_x4 => p10_improveOnce_J77 v1_x4 m_boxAt_x4 m_fam_x4) ex4 = some (r9, m_boxAt_9, m_fam_9) → va_P (dC, dI) vwCl [(ad 0, .inr (10, oM ad m_undoCount m_thrown m_hasSnapshot a_m_fam m_rows m_lineLength m_formattedLength m_bufferLength m_limit m_next m_beginsAt m_token m_error m_errorAt m_errorPosition m_nested m_codeCount)), ((ad 14), .inl (cI, 448, .inl m_boxAt_4)), (a_m_fam, .inl (cJ, 130, .inr (.inl m_fam_4))), ((ad 9), .inl (cI, 16, .inl m_generation)), ((ad 10), .inl (cI, 12, .inl m_level)), ((ad 11), .inl (cI, 16, .inl m_rowSize))] H → va_D A [(ad 0, .inr (10, oM ad m_undoCount m_thrown m_hasSnapshot a_m_fam m_rows m_lineLength m_formattedLength m_bufferLength m_limit m_next m_beginsAt m_token m_error m_errorAt m_errorPosition m_nested m_codeCount)), ((ad 14), .inl (cI, 448, .inl m_boxAt_4)), (a_m_fam, .inl (cJ, 130, .inr (.inl m_fam_4))), ((ad 9), .inl (cI, 16, .inl m_generation)), ((ad 10), .inl (cI, 12, .inl m_level)), ((ad 11), .inl (cI, 16, .inl m_rowSize))] → va_S A s.heap H locs → lv_has ls 5 [(0, .ref (ad 0)), (1, .int v1_4), (2, .int v2_4)] → W p l e ({ frames := 5, cells := 0, slots := 0, locals := 118 }) s m ([.ref (ad 0)] : List Value).toArray below meth c H locs 0 0 (MQ below (gQ dC dI (some (.int r9)) A [(ad 0, .inr (10, oM ad m_undoCount m_thrown m_hasSnapshot a_m_fam m_rows m_lineLength m_formattedLength m_bufferLength m_limit m_next m_beginsAt m_token m_error m_errorAt m_errorPosition m_nested m_codeCount)), ((ad 14), .inl (cI, 448, .inl m_boxAt_9)), (a_m_fam, .inl (cJ, 130, .inr (.inl m_fam_9))), ((ad 9), .inl (cI, 16, .inl m_generation)), ((ad 10), .inl (cI, 12, .inl m_level)), ((ad 11), .inl (cI, 16, .inl m_rowSize))]) ([.ref (ad 0)] : List Value).toArray s 0 0 A) (F0 m 4 ls []) := by
    intro n4
    induction n4 with
    | zero => intro v1_4 v2_4 m_boxAt_4 m_fam_4 ex4 H locs ls hf; rw [p10_improveOnce_L4] at hf; cases hf
    | succ n4 ih4 =>
      intro v1_4 v2_4 m_boxAt_4 m_fam_4 ex4 H locs ls hf hk4 hP hD hS hl
      rw [p10_improveOnce_L4, p10_improveOnce_L4_B] at hf
      have J71 : ∀ (v1_71 : Int32) (m_boxAt_71 : Nat → Int32) (m_fam_71 : Nat → Int64) (H : Heap) (locs : List Loc) (ls : Array Slot), p10_improveOnce_J71 (p10_improveOnce_L4 m_generation m_level m_rowSize m_rows n4) v2_4 v1_71 m_boxAt_71 m_fam_71 = some ex4 → va_P (dC, dI) vwCl [(ad 0, .inr (10, oM ad m_undoCount m_thrown m_hasSnapshot a_m_fam m_rows m_lineLength m_formattedLength m_bufferLength m_limit m_next m_beginsAt m_token m_error m_errorAt m_errorPosition m_nested m_codeCount)), ((ad 14), .inl (cI, 448, .inl m_boxAt_71)), (a_m_fam, .inl (cJ, 130, .inr (.inl m_fam_71))), ((ad 9), .inl (cI, 16, .inl m_generation)), ((ad 10), .inl (cI, 12, .inl m_level)), ((ad 11), .inl (cI, 16, .inl m_rowSize))] H → va_D A [(ad 0, .inr (10, oM ad m_undoCount m_thrown m_hasSnapshot a_m_fam m_rows m_lineLength m_formattedLength m_bufferLength m_limit m_next m_beginsAt m_token m_error m_errorAt m_errorPosition m_nested m_codeCount)), ((ad 14), .inl (cI, 448, .inl m_boxAt_71)), (a_m_fam, .inl (cJ, 130, .inr (.inl m_fam_71))), ((ad 9), .inl (cI, 16, .inl m_generation)), ((ad 10), .inl (cI, 12, .inl m_level)), ((ad 11), .inl (cI, 16, .inl m_rowSize))] → va_S A s.heap H locs → lv_has ls 5 [(0, .ref (ad 0)), (1, .int v1_71), (2, .int v2_4)] → W p l e ({ frames := 5, cells := 0, slots := 0, locals := 118 }) s m ([.ref (ad 0)] : List Value).toArray below meth c H locs 0 0 (MQ below (gQ dC dI (some (.int r9)) A [(ad 0, .inr (10, oM ad m_undoCount m_thrown m_hasSnapshot a_m_fam m_rows m_lineLength m_formattedLength m_bufferLength m_limit m_next m_beginsAt m_token m_error m_errorAt m_errorPosition m_nested m_codeCount)), ((ad 14), .inl (cI, 448, .inl m_boxAt_9)), (a_m_fam, .inl (cJ, 130, .inr (.inl m_fam_9))), ((ad 9), .inl (cI, 16, .inl m_generation)), ((ad 10), .inl (cI, 12, .inl m_level)), ((ad 11), .inl (cI, 16, .inl m_rowSize))]) ([.ref (ad 0)] : List Value).toArray s 0 0 A) (F0 m 71 ls []) := by
        intro v1_71 m_boxAt_71 m_fam_71 H locs ls hf hP hD hS hl
        rw [p10_improveOnce_J71] at hf
        obtain ⟨t71, h9⟩ : ∃ z : Int32, z = (v2_4 + (1 : Int32)) := ⟨_, rfl⟩
        have hf := lb_e h9 hf
        refine lv_iinc (v := t71) (lv' := [(2, .int t71), (0, .ref (ad 0)), (1, .int v1_71)]) hx hb dX10_improveOnce_71 hl (k := 2) rfl (by rw [h9]; rfl) (by decide) rfl (fun ls hl => ?_)
        refine lv_goto (tgt := 4) hx hb dX10_improveOnce_74 (by decide) ?_
        exact ih4 v1_71 t71 m_boxAt_71 m_fam_71 ex4 H locs ls hf hk4 hP hD hS (lv_sub hl [1, 2, 0] rfl)
      refine lv_iload_n hx hb dX10_improveOnce_4 rfl (lv_at hl 2 rfl) ?_
      refine lv_aload_n hx hb dX10_improveOnce_5 rfl (lv_at hl 0 rfl) ?_
      refine va_get (D := (dC, dI)) (ci := 10) (v := .int m_rows) (C := RX10) (T := TX10) (N := 37) hx hb htg inX10 hown hE.1 hP 0 rfl rfl 14 (by decide) (htg _ tw1396) (fun _ h9 => h9) rfl dX10_improveOnce_6 ?_
      refine lv_icmp_ge (tgt := 77) hx hb dX10_improveOnce_9 (by decide) (fun h9 => ?_) (fun h9 => ?_)
      · have hf := itt h9 hf
        cases hf
        have hf := hk4
        have hf := uc3_e hf
        exact J77 v1_4 m_boxAt_4 m_fam_4 H locs ls hf hP hD hS (lv_sub hl [1] rfl)
      · have hf := itf h9 hf
        refine lv_iconst (v := 0) hx hb dX10_improveOnce_12 (by decide) ?_
        refine lv_istore_n (lv' := [(3, .int (0 : Int32)), (0, .ref (ad 0)), (1, .int v1_4), (2, .int v2_4)]) hx hb dX10_improveOnce_13 rfl hl (by decide) rfl (fun ls hl => ?_)
        have K14 : ∀ (n14 : Nat) (v1_14 : Int32) (v3_14 : Int32) (m_boxAt_14 : Nat → Int32) (m_fam_14 : Nat → Int64) (ex14 : Int32 × (Nat → Int32) × (Nat → Int64)) (H : Heap) (locs : List Loc) (ls : Array Slot), p10_improveOnce_L14 m_generation m_level m_rowSize m_rows v2_4 n14 v1_14 v3_14 m_boxAt_14 m_fam_14 = some ex14 → (uc3 fun v1_x14 m_boxAt_x14 m_fam_x14 => p10_improveOnce_J71 (p10_improveOnce_L4 m_generation m_level m_rowSize m_rows n4) v2_4 v1_x14 m_boxAt_x14 m_fam_x14) ex14 = some ex4 → va_P (dC, dI) vwCl [(ad 0, .inr (10, oM ad m_undoCount m_thrown m_hasSnapshot a_m_fam m_rows m_lineLength m_formattedLength m_bufferLength m_limit m_next m_beginsAt m_token m_error m_errorAt m_errorPosition m_nested m_codeCount)), ((ad 14), .inl (cI, 448, .inl m_boxAt_14)), (a_m_fam, .inl (cJ, 130, .inr (.inl m_fam_14))), ((ad 9), .inl (cI, 16, .inl m_generation)), ((ad 10), .inl (cI, 12, .inl m_level)), ((ad 11), .inl (cI, 16, .inl m_rowSize))] H → va_D A [(ad 0, .inr (10, oM ad m_undoCount m_thrown m_hasSnapshot a_m_fam m_rows m_lineLength m_formattedLength m_bufferLength m_limit m_next m_beginsAt m_token m_error m_errorAt m_errorPosition m_nested m_codeCount)), ((ad 14), .inl (cI, 448, .inl m_boxAt_14)), (a_m_fam, .inl (cJ, 130, .inr (.inl m_fam_14))), ((ad 9), .inl (cI, 16, .inl m_generation)), ((ad 10), .inl (cI, 12, .inl m_level)), ((ad 11), .inl (cI, 16, .inl m_rowSize))] → va_S A s.heap H locs → lv_has ls 5 [(0, .ref (ad 0)), (1, .int v1_14), (2, .int v2_4), (3, .int v3_14)] → W p l e ({ frames := 5, cells := 0, slots := 0, locals := 118 }) s m ([.ref (ad 0)] : List Value).toArray below meth c H locs 0 0 (MQ below (gQ dC dI (some (.int r9)) A [(ad 0, .inr (10, oM ad m_undoCount m_thrown m_hasSnapshot a_m_fam m_rows m_lineLength m_formattedLength m_bufferLength m_limit m_next m_beginsAt m_token m_error m_errorAt m_errorPosition m_nested m_codeCount)), ((ad 14), .inl (cI, 448, .inl m_boxAt_9)), (a_m_fam, .inl (cJ, 130, .inr (.inl m_fam_9))), ((ad 9), .inl (cI, 16, .inl m_generation)), ((ad 10), .inl (cI, 12, .inl m_level)), ((ad 11), .inl (cI, 16, .inl m_rowSize))]) ([.ref (ad 0)] : List Value).toArray s 0 0 A) (F0 m 14 ls []) := by
          intro n14
          induction n14 with
          | zero => intro v1_14 v3_14 m_boxAt_14 m_fam_14 ex14 H locs ls hf; rw [p10_improveOnce_L14] at hf; cases hf
          | succ n14 ih14 =>
            intro v1_14 v3_14 m_boxAt_14 m_fam_14 ex14 H locs ls hf hk14 hP hD hS hl
            rw [p10_improveOnce_L14, p10_improveOnce_L14_B] at hf
            refine lv_iload_n hx hb dX10_improveOnce_14 rfl (lv_at hl 3 rfl) ?_
            refine lv_iconst (v := 1) hx hb dX10_improveOnce_15 (by decide) ?_
            refine lv_iadd hx hb dX10_improveOnce_16 ?_
            refine lv_aload_n hx hb dX10_improveOnce_17 rfl (lv_at hl 0 rfl) ?_
            refine va_get (D := (dC, dI)) (ci := 10) (v := .ref (ad 11)) (C := RX10) (T := TX10) (N := 37) hx hb htg inX10 hown hE.1 hP 0 rfl rfl 10 (by decide) (htg _ tw1392) (fun _ h9 => h9) rfl dX10_improveOnce_18 ?_
            refine lv_iload_n hx hb dX10_improveOnce_21 rfl (lv_at hl 2 rfl) ?_
            obtain ⟨h9, hf⟩ := gd_s hf
            refine va_iald hx hb hE.1 hP 5 0 rfl rfl h9 dX10_improveOnce_22 ?_
            refine lv_icmp_ge (tgt := 71) hx hb dX10_improveOnce_23 (by decide) (fun h9 => ?_) (fun h9 => ?_)
            · have hf := itt h9 hf
              cases hf
              have hf := hk14
              have hf := uc3_e hf
              exact J71 v1_14 m_boxAt_14 m_fam_14 H locs ls hf hP hD hS (lv_sub hl [0, 1, 2] rfl)
            · have hf := itf h9 hf
              refine lv_aload_n hx hb dX10_improveOnce_26 rfl (lv_at hl 0 rfl) ?_
              obtain ⟨r27, h9, hf⟩ := ob_s hf
              refine gcV (index := 297) S hE (c_X10_allCrossings ad a_m_fam m_undoCount m_thrown m_hasSnapshot m_rows m_lineLength m_formattedLength m_bufferLength m_limit m_next m_beginsAt m_token m_error m_errorAt m_errorPosition m_nested m_codeCount m_fam_14 m_generation m_level r27 h9) mX10_allCrossings tw1737 ⟨Nat.le_of_ble_eq_true rfl, Nat.le_of_ble_eq_true rfl⟩ hP hD hS hA ⟨Nat.zero_le _, Nat.zero_le _⟩ 0 10 rfl rfl rfl (wr := [((ad 14), .inl (cI, 448, .inl m_boxAt_14)), ((ad 11), .inl (cI, 16, .inl m_rowSize))]) [0, 2, 3, 4] [1, 5] rfl rfl rfl rfl (by decide) (As := []) (rest := []) rfl hl.1 rfl (Nat.le_of_ble_eq_true rfl) dX10_improveOnce_27 (fun H locs hP hD hS => ?_)
              refine W.eq (g2 := F0 m 30 ls [.int r27]) rfl ?_
              have hP : va_P (dC, dI) vwCl [((ad 14), .inl (cI, 448, .inl m_boxAt_14)), ((ad 11), .inl (cI, 16, .inl m_rowSize)), (ad 0, .inr (10, oM ad m_undoCount m_thrown m_hasSnapshot a_m_fam m_rows m_lineLength m_formattedLength m_bufferLength m_limit m_next m_beginsAt m_token m_error m_errorAt m_errorPosition m_nested m_codeCount)), (a_m_fam, .inl (cJ, 130, .inr (.inl m_fam_14))), ((ad 9), .inl (cI, 16, .inl m_generation)), ((ad 10), .inl (cI, 12, .inl m_level))] H := hP
              have hD : va_D A [((ad 14), .inl (cI, 448, .inl m_boxAt_14)), ((ad 11), .inl (cI, 16, .inl m_rowSize)), (ad 0, .inr (10, oM ad m_undoCount m_thrown m_hasSnapshot a_m_fam m_rows m_lineLength m_formattedLength m_bufferLength m_limit m_next m_beginsAt m_token m_error m_errorAt m_errorPosition m_nested m_codeCount)), (a_m_fam, .inl (cJ, 130, .inr (.inl m_fam_14))), ((ad 9), .inl (cI, 16, .inl m_generation)), ((ad 10), .inl (cI, 12, .inl m_level))] := hD
              refine lv_istore (lv' := [(4, .int r27), (0, .ref (ad 0)), (1, .int v1_14), (2, .int v2_4), (3, .int v3_14)]) hx hb dX10_improveOnce_30 hl (by decide) rfl (fun ls hl => ?_)
              refine lv_aload_n hx hb dX10_improveOnce_32 rfl (lv_at hl 1 rfl) ?_
              refine lv_iload_n hx hb dX10_improveOnce_33 rfl (lv_at hl 3 rfl) ?_
              refine lv_iload_n hx hb dX10_improveOnce_34 rfl (lv_at hl 4 rfl) ?_
              refine lv_iload_n hx hb dX10_improveOnce_35 rfl (lv_at hl 4 rfl) ?_
              refine lv_iconst (v := 1) hx hb dX10_improveOnce_36 (by decide) ?_
              refine lv_iadd hx hb dX10_improveOnce_37 ?_
              obtain ⟨⟨m_boxAt_38, m_fam_38⟩, h9, hf⟩ := ob_s hf
              have hf := uc2_e hf
              refine gcV (index := 300) S hE (c_X10_exchange ad a_m_fam m_undoCount m_thrown m_hasSnapshot m_rows m_lineLength m_formattedLength m_bufferLength m_limit m_next m_beginsAt m_token m_error m_errorAt m_errorPosition m_nested m_codeCount m_boxAt_14 m_fam_14 v2_4 v3_14 (v3_14 + (1 : Int32)) m_boxAt_38 m_fam_38 h9) mX10_exchange tw1769 ⟨Nat.le_of_ble_eq_true rfl, Nat.le_of_ble_eq_true rfl⟩ hP hD hS hA ⟨Nat.zero_le _, Nat.zero_le _⟩ 2 10 rfl rfl rfl (wr := [((ad 11), .inl (cI, 16, .inl m_rowSize)), ((ad 9), .inl (cI, 16, .inl m_generation)), ((ad 10), .inl (cI, 12, .inl m_level))]) [2, 0, 3] [1, 4, 5] rfl rfl rfl rfl (by decide) (As := [.int v2_4, .int v3_14, .int (v3_14 + (1 : Int32))]) (rest := []) rfl hl.1 rfl (Nat.le_of_ble_eq_true rfl) dX10_improveOnce_38 (fun H locs hP hD hS => ?_)
              refine W.eq (g2 := F0 m 41 ls []) rfl ?_
              have hP : va_P (dC, dI) vwCl [((ad 11), .inl (cI, 16, .inl m_rowSize)), ((ad 9), .inl (cI, 16, .inl m_generation)), ((ad 10), .inl (cI, 12, .inl m_level)), (ad 0, .inr (10, oM ad m_undoCount m_thrown m_hasSnapshot a_m_fam m_rows m_lineLength m_formattedLength m_bufferLength m_limit m_next m_beginsAt m_token m_error m_errorAt m_errorPosition m_nested m_codeCount)), ((ad 14), .inl (cI, 448, .inl m_boxAt_38)), (a_m_fam, .inl (cJ, 130, .inr (.inl m_fam_38)))] H := hP
              have hD : va_D A [((ad 11), .inl (cI, 16, .inl m_rowSize)), ((ad 9), .inl (cI, 16, .inl m_generation)), ((ad 10), .inl (cI, 12, .inl m_level)), (ad 0, .inr (10, oM ad m_undoCount m_thrown m_hasSnapshot a_m_fam m_rows m_lineLength m_formattedLength m_bufferLength m_limit m_next m_beginsAt m_token m_error m_errorAt m_errorPosition m_nested m_codeCount)), ((ad 14), .inl (cI, 448, .inl m_boxAt_38)), (a_m_fam, .inl (cJ, 130, .inr (.inl m_fam_38)))] := hD
              refine lv_aload_n hx hb dX10_improveOnce_41 rfl (lv_at hl 1 rfl) ?_
              obtain ⟨r42, h9, hf⟩ := ob_s hf
              refine gcV (index := 297) S hE (c_X10_allCrossings ad a_m_fam m_undoCount m_thrown m_hasSnapshot m_rows m_lineLength m_formattedLength m_bufferLength m_limit m_next m_beginsAt m_token m_error m_errorAt m_errorPosition m_nested m_codeCount m_fam_38 m_generation m_level r42 h9) mX10_allCrossings tw1737 ⟨Nat.le_of_ble_eq_true rfl, Nat.le_of_ble_eq_true rfl⟩ hP hD hS hA ⟨Nat.zero_le _, Nat.zero_le _⟩ 3 10 rfl rfl rfl (wr := [((ad 11), .inl (cI, 16, .inl m_rowSize)), ((ad 14), .inl (cI, 448, .inl m_boxAt_38))]) [3, 5, 1, 2] [0, 4] rfl rfl rfl rfl (by decide) (As := []) (rest := []) rfl hl.1 rfl (Nat.le_of_ble_eq_true rfl) dX10_improveOnce_42 (fun H locs hP hD hS => ?_)
              refine W.eq (g2 := F0 m 45 ls [.int r42]) rfl ?_
              have hP : va_P (dC, dI) vwCl [((ad 11), .inl (cI, 16, .inl m_rowSize)), ((ad 14), .inl (cI, 448, .inl m_boxAt_38)), (ad 0, .inr (10, oM ad m_undoCount m_thrown m_hasSnapshot a_m_fam m_rows m_lineLength m_formattedLength m_bufferLength m_limit m_next m_beginsAt m_token m_error m_errorAt m_errorPosition m_nested m_codeCount)), (a_m_fam, .inl (cJ, 130, .inr (.inl m_fam_38))), ((ad 9), .inl (cI, 16, .inl m_generation)), ((ad 10), .inl (cI, 12, .inl m_level))] H := hP
              have hD : va_D A [((ad 11), .inl (cI, 16, .inl m_rowSize)), ((ad 14), .inl (cI, 448, .inl m_boxAt_38)), (ad 0, .inr (10, oM ad m_undoCount m_thrown m_hasSnapshot a_m_fam m_rows m_lineLength m_formattedLength m_bufferLength m_limit m_next m_beginsAt m_token m_error m_errorAt m_errorPosition m_nested m_codeCount)), (a_m_fam, .inl (cJ, 130, .inr (.inl m_fam_38))), ((ad 9), .inl (cI, 16, .inl m_generation)), ((ad 10), .inl (cI, 12, .inl m_level))] := hD
              refine lv_iload hx hb dX10_improveOnce_45 (lv_at hl 0 rfl) ?_
              refine lv_icmp_ge (tgt := 56) hx hb dX10_improveOnce_47 (by decide) (fun h9 => ?_) (fun h9 => ?_)
              · have hf := itt h9 hf
                refine lv_aload_n hx hb dX10_improveOnce_56 rfl (lv_at hl 1 rfl) ?_
                refine lv_iload_n hx hb dX10_improveOnce_57 rfl (lv_at hl 3 rfl) ?_
                refine lv_iload_n hx hb dX10_improveOnce_58 rfl (lv_at hl 4 rfl) ?_
                refine lv_iload_n hx hb dX10_improveOnce_59 rfl (lv_at hl 4 rfl) ?_
                refine lv_iconst (v := 1) hx hb dX10_improveOnce_60 (by decide) ?_
                refine lv_iadd hx hb dX10_improveOnce_61 ?_
                obtain ⟨⟨m_boxAt_62, m_fam_62⟩, h9, hf⟩ := ob_s hf
                have hf := uc2_e hf
                refine gcV (index := 300) S hE (c_X10_exchange ad a_m_fam m_undoCount m_thrown m_hasSnapshot m_rows m_lineLength m_formattedLength m_bufferLength m_limit m_next m_beginsAt m_token m_error m_errorAt m_errorPosition m_nested m_codeCount m_boxAt_38 m_fam_38 v2_4 v3_14 (v3_14 + (1 : Int32)) m_boxAt_62 m_fam_62 h9) mX10_exchange tw1769 ⟨Nat.le_of_ble_eq_true rfl, Nat.le_of_ble_eq_true rfl⟩ hP hD hS hA ⟨Nat.zero_le _, Nat.zero_le _⟩ 2 10 rfl rfl rfl (wr := [((ad 11), .inl (cI, 16, .inl m_rowSize)), ((ad 9), .inl (cI, 16, .inl m_generation)), ((ad 10), .inl (cI, 12, .inl m_level))]) [2, 1, 3] [0, 4, 5] rfl rfl rfl rfl (by decide) (As := [.int v2_4, .int v3_14, .int (v3_14 + (1 : Int32))]) (rest := []) rfl hl.1 rfl (Nat.le_of_ble_eq_true rfl) dX10_improveOnce_62 (fun H locs hP hD hS => ?_)
                refine W.eq (g2 := F0 m 65 ls []) rfl ?_
                have hP : va_P (dC, dI) vwCl [((ad 11), .inl (cI, 16, .inl m_rowSize)), ((ad 9), .inl (cI, 16, .inl m_generation)), ((ad 10), .inl (cI, 12, .inl m_level)), (ad 0, .inr (10, oM ad m_undoCount m_thrown m_hasSnapshot a_m_fam m_rows m_lineLength m_formattedLength m_bufferLength m_limit m_next m_beginsAt m_token m_error m_errorAt m_errorPosition m_nested m_codeCount)), ((ad 14), .inl (cI, 448, .inl m_boxAt_62)), (a_m_fam, .inl (cJ, 130, .inr (.inl m_fam_62)))] H := hP
                have hD : va_D A [((ad 11), .inl (cI, 16, .inl m_rowSize)), ((ad 9), .inl (cI, 16, .inl m_generation)), ((ad 10), .inl (cI, 12, .inl m_level)), (ad 0, .inr (10, oM ad m_undoCount m_thrown m_hasSnapshot a_m_fam m_rows m_lineLength m_formattedLength m_bufferLength m_limit m_next m_beginsAt m_token m_error m_errorAt m_errorPosition m_nested m_codeCount)), ((ad 14), .inl (cI, 448, .inl m_boxAt_62)), (a_m_fam, .inl (cJ, 130, .inr (.inl m_fam_62)))] := hD
                obtain ⟨t65, h9⟩ : ∃ z : Int32, z = (v3_14 + (1 : Int32)) := ⟨_, rfl⟩
                have hf := lb_e h9 hf
                refine lv_iinc (v := t65) (lv' := [(3, .int t65), (4, .int r27), (0, .ref (ad 0)), (1, .int v1_14), (2, .int v2_4)]) hx hb dX10_improveOnce_65 hl (k := 4) rfl (by rw [h9]; rfl) (by decide) rfl (fun ls hl => ?_)
                refine lv_goto (tgt := 14) hx hb dX10_improveOnce_68 (by decide) ?_
                exact ih14 v1_14 t65 m_boxAt_62 m_fam_62 ex14 H locs ls hf hk14 (hP.sub [3, 4, 5, 1, 2, 0] rfl) (hD.sub [3, 4, 5, 1, 2, 0] (by decide) rfl) hS (lv_sub hl [2, 3, 4, 0] rfl)
              · have hf := itf h9 hf
                obtain ⟨t50, h9⟩ : ∃ z : Int32, z = (v1_14 + (1 : Int32)) := ⟨_, rfl⟩
                have hf := lb_e h9 hf
                refine lv_iinc (v := t50) (lv' := [(1, .int t50), (4, .int r27), (0, .ref (ad 0)), (2, .int v2_4), (3, .int v3_14)]) hx hb dX10_improveOnce_50 hl (k := 2) rfl (by rw [h9]; rfl) (by decide) rfl (fun ls hl => ?_)
                refine lv_goto (tgt := 65) hx hb dX10_improveOnce_53 (by decide) ?_
                obtain ⟨t65, h9⟩ : ∃ z : Int32, z = (v3_14 + (1 : Int32)) := ⟨_, rfl⟩
                have hf := lb_e h9 hf
                refine lv_iinc (v := t65) (lv' := [(3, .int t65), (1, .int t50), (4, .int r27), (0, .ref (ad 0)), (2, .int v2_4)]) hx hb dX10_improveOnce_65 hl (k := 4) rfl (by rw [h9]; rfl) (by decide) rfl (fun ls hl => ?_)
                refine lv_goto (tgt := 14) hx hb dX10_improveOnce_68 (by decide) ?_
                exact ih14 t50 t65 m_boxAt_38 m_fam_38 ex14 H locs ls hf hk14 (hP.sub [2, 1, 3, 4, 5, 0] rfl) (hD.sub [2, 1, 3, 4, 5, 0] (by decide) rfl) hS (lv_sub hl [3, 1, 4, 0] rfl)
        obtain ⟨ex, h9, hf⟩ := ob_s hf
        exact K14 FU v1_4 (0 : Int32) m_boxAt_4 m_fam_4 ex H locs ls h9 hf hP hD hS (lv_sub hl [1, 2, 3, 0] rfl)
  obtain ⟨ex, h9, hf⟩ := ob_s hf
  exact K4 FU (0 : Int32) (0 : Int32) m_boxAt m_fam ex H locs ls h9 hf hP hD hS (lv_sub hl [2, 1, 0] rfl)
def p10_mainKey (m_fam : Nat → Int64) (m_generation : Nat → Int32) (m_level : Nat → Int32) (v1 : Int32) : Option (Int32) := ob (p10_parentsOf m_fam v1) (fun r2 => (if r2 = (-1 : Int32) then some (1000 : Int32) else ob (p10_parentsOf m_fam v1) (fun r18 => ob (p10_middle m_fam m_generation m_level r18) (fun r21 => some r21))))
set_option maxHeartbeats 4000000 in
set_option maxRecDepth 100000 in
theorem c_X10_mainKey (ad : Nat → Nat) (a_m_fam : Nat) (m_undoCount : Int32) (m_thrown : Int32) (m_hasSnapshot : Bool) (m_rows : Int32) (m_lineLength : Int32) (m_formattedLength : Int32) (m_bufferLength : Int32) (m_limit : Int32) (m_next : Int32) (m_beginsAt : Int32) (m_token : Int32) (m_error : Int32) (m_errorAt : Int32) (m_errorPosition : Int32) (m_nested : Int32) (m_codeCount : Int32) (m_fam : Nat → Int64) (m_generation : Nat → Int32) (m_level : Nat → Int32) (v1 : Int32) (r9 : Int32) (hf : p10_mainKey m_fam m_generation m_level v1 = some r9) : gM l dC dI cI cJ cZ yX10_mainKey cX10_mainKey 2 (some .int) (3) (66) [.ref (ad 0), .int v1] [(ad 0, .inr (10, oM ad m_undoCount m_thrown m_hasSnapshot a_m_fam m_rows m_lineLength m_formattedLength m_bufferLength m_limit m_next m_beginsAt m_token m_error m_errorAt m_errorPosition m_nested m_codeCount)), (a_m_fam, .inl (cJ, 130, .inr (.inl m_fam))), ((ad 9), .inl (cI, 16, .inl m_generation)), ((ad 10), .inl (cI, 12, .inl m_level))] [(ad 0, .inr (10, oM ad m_undoCount m_thrown m_hasSnapshot a_m_fam m_rows m_lineLength m_formattedLength m_bufferLength m_limit m_next m_beginsAt m_token m_error m_errorAt m_errorPosition m_nested m_codeCount)), (a_m_fam, .inl (cJ, 130, .inr (.inl m_fam))), ((ad 9), .inl (cI, 16, .inl m_generation)), ((ad 10), .inl (cI, 12, .inl m_level))] (some (.int r9)) := by
  refine g_start (own := RX10) (by decide +kernel) rfl (Nat.le_of_ble_eq_true rfl) ?_
  intro p e s m below meth c A ls S hr hlocks hE hP hD hS hA hl hin
  have hx := S.1
  have hb := S.2.1
  have hml := S.2.2.1
  have hown := S.2.2.2.1
  have htg : ∀ z ∈ gw, z.before ([.ref (ad 0), .int v1] : List Value).toArray s = true := fun w h => S.2.2.2.2 w (List.mem_cons_of_mem _ h)
  have hl : lv_has ls 2 [(0, .ref (ad 0)), (1, .int v1)] := hl
  have hS0 := hS
  obtain ⟨H, hH⟩ : ∃ H, H = s.heap := ⟨_, rfl⟩
  obtain ⟨locs, hlc⟩ : ∃ locs : List Loc, locs = [] := ⟨_, rfl⟩
  have hS : va_S A s.heap H locs := by rw [hH, hlc]; exact hS0
  have hP : va_P (dC, dI) vwCl [(ad 0, .inr (10, oM ad m_undoCount m_thrown m_hasSnapshot a_m_fam m_rows m_lineLength m_formattedLength m_bufferLength m_limit m_next m_beginsAt m_token m_error m_errorAt m_errorPosition m_nested m_codeCount)), (a_m_fam, .inl (cJ, 130, .inr (.inl m_fam))), ((ad 9), .inl (cI, 16, .inl m_generation)), ((ad 10), .inl (cI, 12, .inl m_level))] H := by rw [hH]; exact hP
  suffices hgo : W p l e ({ frames := 3, cells := 0, slots := 0, locals := 66 }) s m ([.ref (ad 0), .int v1] : List Value).toArray below meth c H locs 0 0 (MQ below (gQ dC dI (some (.int r9)) A [(ad 0, .inr (10, oM ad m_undoCount m_thrown m_hasSnapshot a_m_fam m_rows m_lineLength m_formattedLength m_bufferLength m_limit m_next m_beginsAt m_token m_error m_errorAt m_errorPosition m_nested m_codeCount)), (a_m_fam, .inl (cJ, 130, .inr (.inl m_fam))), ((ad 9), .inl (cI, 16, .inl m_generation)), ((ad 10), .inl (cI, 12, .inl m_level))]) ([.ref (ad 0), .int v1] : List Value).toArray s 0 0 A) (F0 m 0 ls []) by rw [hH, hlc] at hgo; exact hgo
  rw [p10_mainKey] at hf
  refine lv_aload_n hx hb dX10_mainKey_0 rfl (lv_at hl 0 rfl) ?_
  refine lv_iload_n hx hb dX10_mainKey_1 rfl (lv_at hl 1 rfl) ?_
  obtain ⟨r2, h9, hf⟩ := ob_s hf
  refine gcV (index := 117) S hE (c_X10_parentsOf ad a_m_fam m_undoCount m_thrown m_hasSnapshot m_rows m_lineLength m_formattedLength m_bufferLength m_limit m_next m_beginsAt m_token m_error m_errorAt m_errorPosition m_nested m_codeCount m_fam v1 r2 h9) mX10_parentsOf tw1515 ⟨Nat.le_of_ble_eq_true rfl, Nat.le_of_ble_eq_true rfl⟩ hP hD hS hA ⟨Nat.zero_le _, Nat.zero_le _⟩ 0 10 rfl rfl rfl (wr := [((ad 9), .inl (cI, 16, .inl m_generation)), ((ad 10), .inl (cI, 12, .inl m_level))]) [0, 1] [2, 3] rfl rfl rfl rfl (by decide) (As := [.int v1]) (rest := []) rfl hl.1 rfl (Nat.le_of_ble_eq_true rfl) dX10_mainKey_2 (fun H locs hP hD hS => ?_)
  refine W.eq (g2 := F0 m 5 ls [.int r2]) rfl ?_
  have hP : va_P (dC, dI) vwCl [((ad 9), .inl (cI, 16, .inl m_generation)), ((ad 10), .inl (cI, 12, .inl m_level)), (ad 0, .inr (10, oM ad m_undoCount m_thrown m_hasSnapshot a_m_fam m_rows m_lineLength m_formattedLength m_bufferLength m_limit m_next m_beginsAt m_token m_error m_errorAt m_errorPosition m_nested m_codeCount)), (a_m_fam, .inl (cJ, 130, .inr (.inl m_fam)))] H := hP
  have hD : va_D A [((ad 9), .inl (cI, 16, .inl m_generation)), ((ad 10), .inl (cI, 12, .inl m_level)), (ad 0, .inr (10, oM ad m_undoCount m_thrown m_hasSnapshot a_m_fam m_rows m_lineLength m_formattedLength m_bufferLength m_limit m_next m_beginsAt m_token m_error m_errorAt m_errorPosition m_nested m_codeCount)), (a_m_fam, .inl (cJ, 130, .inr (.inl m_fam)))] := hD
  refine lv_iconst (v := -1) hx hb dX10_mainKey_5 (by decide) ?_
  refine lv_icmp_ne (tgt := 15) hx hb dX10_mainKey_6 (by decide) (fun h9 => ?_) (fun h9 => ?_)
  · have hf := itf h9 hf
    refine lv_aload_n hx hb dX10_mainKey_15 rfl (lv_at hl 0 rfl) ?_
    refine lv_aload_n hx hb dX10_mainKey_16 rfl (lv_at hl 0 rfl) ?_
    refine lv_iload_n hx hb dX10_mainKey_17 rfl (lv_at hl 1 rfl) ?_
    obtain ⟨r18, h9, hf⟩ := ob_s hf
    refine gcV (index := 117) S hE (c_X10_parentsOf ad a_m_fam m_undoCount m_thrown m_hasSnapshot m_rows m_lineLength m_formattedLength m_bufferLength m_limit m_next m_beginsAt m_token m_error m_errorAt m_errorPosition m_nested m_codeCount m_fam v1 r18 h9) mX10_parentsOf tw1515 ⟨Nat.le_of_ble_eq_true rfl, Nat.le_of_ble_eq_true rfl⟩ hP hD hS hA ⟨Nat.zero_le _, Nat.zero_le _⟩ 2 10 rfl rfl rfl (wr := [((ad 9), .inl (cI, 16, .inl m_generation)), ((ad 10), .inl (cI, 12, .inl m_level))]) [2, 3] [0, 1] rfl rfl rfl rfl (by decide) (As := [.int v1]) (rest := [.ref (ad 0)]) rfl hl.1 rfl (Nat.le_of_ble_eq_true rfl) dX10_mainKey_18 (fun H locs hP hD hS => ?_)
    refine W.eq (g2 := F0 m 21 ls [.int r18, .ref (ad 0)]) rfl ?_
    have hP : va_P (dC, dI) vwCl [((ad 9), .inl (cI, 16, .inl m_generation)), ((ad 10), .inl (cI, 12, .inl m_level)), (ad 0, .inr (10, oM ad m_undoCount m_thrown m_hasSnapshot a_m_fam m_rows m_lineLength m_formattedLength m_bufferLength m_limit m_next m_beginsAt m_token m_error m_errorAt m_errorPosition m_nested m_codeCount)), (a_m_fam, .inl (cJ, 130, .inr (.inl m_fam)))] H := hP
    have hD : va_D A [((ad 9), .inl (cI, 16, .inl m_generation)), ((ad 10), .inl (cI, 12, .inl m_level)), (ad 0, .inr (10, oM ad m_undoCount m_thrown m_hasSnapshot a_m_fam m_rows m_lineLength m_formattedLength m_bufferLength m_limit m_next m_beginsAt m_token m_error m_errorAt m_errorPosition m_nested m_codeCount)), (a_m_fam, .inl (cJ, 130, .inr (.inl m_fam)))] := hD
    obtain ⟨r21, h9, hf⟩ := ob_s hf
    refine gcV (index := 169) S hE (c_X10_middle ad a_m_fam m_undoCount m_thrown m_hasSnapshot m_rows m_lineLength m_formattedLength m_bufferLength m_limit m_next m_beginsAt m_token m_error m_errorAt m_errorPosition m_nested m_codeCount m_fam m_generation m_level r18 r21 h9) mX10_middle tw1636 ⟨Nat.le_of_ble_eq_true rfl, Nat.le_of_ble_eq_true rfl⟩ hP hD hS hA ⟨Nat.zero_le _, Nat.zero_le _⟩ 2 10 rfl rfl rfl (wr := []) [2, 3, 0, 1] [] rfl rfl rfl rfl (by decide) (As := [.int r18]) (rest := []) rfl hl.1 rfl (Nat.le_of_ble_eq_true rfl) dX10_mainKey_21 (fun H locs hP hD hS => ?_)
    refine W.eq (g2 := F0 m 24 ls [.int r21]) rfl ?_
    have hP : va_P (dC, dI) vwCl [(ad 0, .inr (10, oM ad m_undoCount m_thrown m_hasSnapshot a_m_fam m_rows m_lineLength m_formattedLength m_bufferLength m_limit m_next m_beginsAt m_token m_error m_errorAt m_errorPosition m_nested m_codeCount)), (a_m_fam, .inl (cJ, 130, .inr (.inl m_fam))), ((ad 9), .inl (cI, 16, .inl m_generation)), ((ad 10), .inl (cI, 12, .inl m_level))] H := hP
    have hD : va_D A [(ad 0, .inr (10, oM ad m_undoCount m_thrown m_hasSnapshot a_m_fam m_rows m_lineLength m_formattedLength m_bufferLength m_limit m_next m_beginsAt m_token m_error m_errorAt m_errorPosition m_nested m_codeCount)), (a_m_fam, .inl (cJ, 130, .inr (.inl m_fam))), ((ad 9), .inl (cI, 16, .inl m_generation)), ((ad 10), .inl (cI, 12, .inl m_level))] := hD
    cases hf
    exact g_iret S hr hlocks hP hD hS dX10_mainKey_24
  · have hf := itt h9 hf
    refine lv_sipush (v := 1000) hx hb dX10_mainKey_9 (by decide) ?_
    refine lv_goto (tgt := 24) hx hb dX10_mainKey_12 (by decide) ?_
    cases hf
    exact g_iret S hr hlocks (hP.sub [2, 3, 0, 1] rfl) (hD.sub [2, 3, 0, 1] (by decide) rfl) hS dX10_mainKey_24
def p10_keyOf_J47 (m_fam : Nat → Int64) (m_generation : Nat → Int32) (m_level : Nat → Int32) (v3_47 : Int32) : Option (Int32) := ob (p10_mainKey m_fam m_generation m_level v3_47) (fun r49 => some r49)
def p10_keyOf (m_fam : Nat → Int64) (m_generation : Nat → Int32) (m_level : Nat → Int32) (v1 : Int32) : Option (Int32) := (if (16 : Int32) ≤ v1 then lb (v1 - (16 : Int32)) (fun t16 => ob (p10_partner m_fam t16 (0 : Int32)) (fun r20 => ob (p10_referred m_fam m_generation m_level t16) (fun r25 => (if r20 = r25 then ob (p10_partner m_fam t16 (1 : Int32)) (fun r34 => (p10_keyOf_J47 m_fam m_generation m_level r34)) else ob (p10_partner m_fam t16 (0 : Int32)) (fun r43 => (p10_keyOf_J47 m_fam m_generation m_level r43)))))) else ob (p10_mainKey m_fam m_generation m_level v1) (fun r8 => some r8))
set_option maxHeartbeats 4000000 in
set_option maxRecDepth 100000 in
theorem c_X10_keyOf (ad : Nat → Nat) (a_m_fam : Nat) (m_undoCount : Int32) (m_thrown : Int32) (m_hasSnapshot : Bool) (m_rows : Int32) (m_lineLength : Int32) (m_formattedLength : Int32) (m_bufferLength : Int32) (m_limit : Int32) (m_next : Int32) (m_beginsAt : Int32) (m_token : Int32) (m_error : Int32) (m_errorAt : Int32) (m_errorPosition : Int32) (m_nested : Int32) (m_codeCount : Int32) (m_fam : Nat → Int64) (m_generation : Nat → Int32) (m_level : Nat → Int32) (v1 : Int32) (r9 : Int32) (hf : p10_keyOf m_fam m_generation m_level v1 = some r9) : gM l dC dI cI cJ cZ yX10_keyOf cX10_keyOf 4 (some .int) (4) (87) [.ref (ad 0), .int v1] [(ad 0, .inr (10, oM ad m_undoCount m_thrown m_hasSnapshot a_m_fam m_rows m_lineLength m_formattedLength m_bufferLength m_limit m_next m_beginsAt m_token m_error m_errorAt m_errorPosition m_nested m_codeCount)), (a_m_fam, .inl (cJ, 130, .inr (.inl m_fam))), ((ad 9), .inl (cI, 16, .inl m_generation)), ((ad 10), .inl (cI, 12, .inl m_level))] [(ad 0, .inr (10, oM ad m_undoCount m_thrown m_hasSnapshot a_m_fam m_rows m_lineLength m_formattedLength m_bufferLength m_limit m_next m_beginsAt m_token m_error m_errorAt m_errorPosition m_nested m_codeCount)), (a_m_fam, .inl (cJ, 130, .inr (.inl m_fam))), ((ad 9), .inl (cI, 16, .inl m_generation)), ((ad 10), .inl (cI, 12, .inl m_level))] (some (.int r9)) := by
  refine g_start (own := RX10) (by decide +kernel) rfl (Nat.le_of_ble_eq_true rfl) ?_
  intro p e s m below meth c A ls S hr hlocks hE hP hD hS hA hl hin
  have hx := S.1
  have hb := S.2.1
  have hml := S.2.2.1
  have hown := S.2.2.2.1
  have htg : ∀ z ∈ gw, z.before ([.ref (ad 0), .int v1] : List Value).toArray s = true := fun w h => S.2.2.2.2 w (List.mem_cons_of_mem _ h)
  have hl : lv_has ls 4 [(0, .ref (ad 0)), (1, .int v1)] := hl
  have hS0 := hS
  obtain ⟨H, hH⟩ : ∃ H, H = s.heap := ⟨_, rfl⟩
  obtain ⟨locs, hlc⟩ : ∃ locs : List Loc, locs = [] := ⟨_, rfl⟩
  have hS : va_S A s.heap H locs := by rw [hH, hlc]; exact hS0
  have hP : va_P (dC, dI) vwCl [(ad 0, .inr (10, oM ad m_undoCount m_thrown m_hasSnapshot a_m_fam m_rows m_lineLength m_formattedLength m_bufferLength m_limit m_next m_beginsAt m_token m_error m_errorAt m_errorPosition m_nested m_codeCount)), (a_m_fam, .inl (cJ, 130, .inr (.inl m_fam))), ((ad 9), .inl (cI, 16, .inl m_generation)), ((ad 10), .inl (cI, 12, .inl m_level))] H := by rw [hH]; exact hP
  suffices hgo : W p l e ({ frames := 4, cells := 0, slots := 0, locals := 87 }) s m ([.ref (ad 0), .int v1] : List Value).toArray below meth c H locs 0 0 (MQ below (gQ dC dI (some (.int r9)) A [(ad 0, .inr (10, oM ad m_undoCount m_thrown m_hasSnapshot a_m_fam m_rows m_lineLength m_formattedLength m_bufferLength m_limit m_next m_beginsAt m_token m_error m_errorAt m_errorPosition m_nested m_codeCount)), (a_m_fam, .inl (cJ, 130, .inr (.inl m_fam))), ((ad 9), .inl (cI, 16, .inl m_generation)), ((ad 10), .inl (cI, 12, .inl m_level))]) ([.ref (ad 0), .int v1] : List Value).toArray s 0 0 A) (F0 m 0 ls []) by rw [hH, hlc] at hgo; exact hgo
  rw [p10_keyOf] at hf
  have J47 : ∀ (v3_47 : Int32) (H : Heap) (locs : List Loc) (ls : Array Slot), p10_keyOf_J47 m_fam m_generation m_level v3_47 = some r9 → va_P (dC, dI) vwCl [(ad 0, .inr (10, oM ad m_undoCount m_thrown m_hasSnapshot a_m_fam m_rows m_lineLength m_formattedLength m_bufferLength m_limit m_next m_beginsAt m_token m_error m_errorAt m_errorPosition m_nested m_codeCount)), (a_m_fam, .inl (cJ, 130, .inr (.inl m_fam))), ((ad 9), .inl (cI, 16, .inl m_generation)), ((ad 10), .inl (cI, 12, .inl m_level))] H → va_D A [(ad 0, .inr (10, oM ad m_undoCount m_thrown m_hasSnapshot a_m_fam m_rows m_lineLength m_formattedLength m_bufferLength m_limit m_next m_beginsAt m_token m_error m_errorAt m_errorPosition m_nested m_codeCount)), (a_m_fam, .inl (cJ, 130, .inr (.inl m_fam))), ((ad 9), .inl (cI, 16, .inl m_generation)), ((ad 10), .inl (cI, 12, .inl m_level))] → va_S A s.heap H locs → lv_has ls 4 [(0, .ref (ad 0)), (3, .int v3_47)] → W p l e ({ frames := 4, cells := 0, slots := 0, locals := 87 }) s m ([.ref (ad 0), .int v1] : List Value).toArray below meth c H locs 0 0 (MQ below (gQ dC dI (some (.int r9)) A [(ad 0, .inr (10, oM ad m_undoCount m_thrown m_hasSnapshot a_m_fam m_rows m_lineLength m_formattedLength m_bufferLength m_limit m_next m_beginsAt m_token m_error m_errorAt m_errorPosition m_nested m_codeCount)), (a_m_fam, .inl (cJ, 130, .inr (.inl m_fam))), ((ad 9), .inl (cI, 16, .inl m_generation)), ((ad 10), .inl (cI, 12, .inl m_level))]) ([.ref (ad 0), .int v1] : List Value).toArray s 0 0 A) (F0 m 47 ls []) := by
    intro v3_47 H locs ls hf hP hD hS hl
    rw [p10_keyOf_J47] at hf
    refine lv_aload_n hx hb dX10_keyOf_47 rfl (lv_at hl 0 rfl) ?_
    refine lv_iload_n hx hb dX10_keyOf_48 rfl (lv_at hl 1 rfl) ?_
    obtain ⟨r49, h9, hf⟩ := ob_s hf
    refine gcV (index := 348) S hE (c_X10_mainKey ad a_m_fam m_undoCount m_thrown m_hasSnapshot m_rows m_lineLength m_formattedLength m_bufferLength m_limit m_next m_beginsAt m_token m_error m_errorAt m_errorPosition m_nested m_codeCount m_fam m_generation m_level v3_47 r49 h9) mX10_mainKey tw1898 ⟨Nat.le_of_ble_eq_true rfl, Nat.le_of_ble_eq_true rfl⟩ hP hD hS hA ⟨Nat.zero_le _, Nat.zero_le _⟩ 0 10 rfl rfl rfl (wr := []) [0, 1, 2, 3] [] rfl rfl rfl rfl (by decide) (As := [.int v3_47]) (rest := []) rfl hl.1 rfl (Nat.le_of_ble_eq_true rfl) dX10_keyOf_49 (fun H locs hP hD hS => ?_)
    refine W.eq (g2 := F0 m 52 ls [.int r49]) rfl ?_
    have hP : va_P (dC, dI) vwCl [(ad 0, .inr (10, oM ad m_undoCount m_thrown m_hasSnapshot a_m_fam m_rows m_lineLength m_formattedLength m_bufferLength m_limit m_next m_beginsAt m_token m_error m_errorAt m_errorPosition m_nested m_codeCount)), (a_m_fam, .inl (cJ, 130, .inr (.inl m_fam))), ((ad 9), .inl (cI, 16, .inl m_generation)), ((ad 10), .inl (cI, 12, .inl m_level))] H := hP
    have hD : va_D A [(ad 0, .inr (10, oM ad m_undoCount m_thrown m_hasSnapshot a_m_fam m_rows m_lineLength m_formattedLength m_bufferLength m_limit m_next m_beginsAt m_token m_error m_errorAt m_errorPosition m_nested m_codeCount)), (a_m_fam, .inl (cJ, 130, .inr (.inl m_fam))), ((ad 9), .inl (cI, 16, .inl m_generation)), ((ad 10), .inl (cI, 12, .inl m_level))] := hD
    cases hf
    exact g_iret S hr hlocks hP hD hS dX10_keyOf_52
  refine lv_iload_n hx hb dX10_keyOf_0 rfl (lv_at hl 1 rfl) ?_
  refine lv_bipush (v := 16) hx hb dX10_keyOf_1 (by decide) ?_
  refine lv_icmp_ge (tgt := 12) hx hb dX10_keyOf_3 (by decide) (fun h9 => ?_) (fun h9 => ?_)
  · have hf := itt h9 hf
    refine lv_iload_n hx hb dX10_keyOf_12 rfl (lv_at hl 1 rfl) ?_
    refine lv_bipush (v := 16) hx hb dX10_keyOf_13 (by decide) ?_
    refine lv_isub hx hb dX10_keyOf_15 ?_
    refine lv_topi (fun t16 h9 => ?_)
    have hf := lb_e h9 hf
    refine lv_istore_n (lv' := [(2, .int t16), (0, .ref (ad 0)), (1, .int v1)]) hx hb dX10_keyOf_16 rfl hl (by decide) rfl (fun ls hl => ?_)
    refine lv_aload_n hx hb dX10_keyOf_17 rfl (lv_at hl 1 rfl) ?_
    refine lv_iload_n hx hb dX10_keyOf_18 rfl (lv_at hl 0 rfl) ?_
    refine lv_iconst (v := 0) hx hb dX10_keyOf_19 (by decide) ?_
    obtain ⟨r20, h9, hf⟩ := ob_s hf
    refine gcV (index := 102) S hE (c_X10_partner ad a_m_fam m_undoCount m_thrown m_hasSnapshot m_rows m_lineLength m_formattedLength m_bufferLength m_limit m_next m_beginsAt m_token m_error m_errorAt m_errorPosition m_nested m_codeCount m_fam t16 (0 : Int32) r20 h9) mX10_partner tw1527 ⟨Nat.le_of_ble_eq_true rfl, Nat.le_of_ble_eq_true rfl⟩ hP hD hS hA ⟨Nat.zero_le _, Nat.zero_le _⟩ 0 10 rfl rfl rfl (wr := [((ad 9), .inl (cI, 16, .inl m_generation)), ((ad 10), .inl (cI, 12, .inl m_level))]) [0, 1] [2, 3] rfl rfl rfl rfl (by decide) (As := [.int t16, .int (0 : Int32)]) (rest := []) rfl hl.1 rfl (Nat.le_of_ble_eq_true rfl) dX10_keyOf_20 (fun H locs hP hD hS => ?_)
    refine W.eq (g2 := F0 m 23 ls [.int r20]) rfl ?_
    have hP : va_P (dC, dI) vwCl [((ad 9), .inl (cI, 16, .inl m_generation)), ((ad 10), .inl (cI, 12, .inl m_level)), (ad 0, .inr (10, oM ad m_undoCount m_thrown m_hasSnapshot a_m_fam m_rows m_lineLength m_formattedLength m_bufferLength m_limit m_next m_beginsAt m_token m_error m_errorAt m_errorPosition m_nested m_codeCount)), (a_m_fam, .inl (cJ, 130, .inr (.inl m_fam)))] H := hP
    have hD : va_D A [((ad 9), .inl (cI, 16, .inl m_generation)), ((ad 10), .inl (cI, 12, .inl m_level)), (ad 0, .inr (10, oM ad m_undoCount m_thrown m_hasSnapshot a_m_fam m_rows m_lineLength m_formattedLength m_bufferLength m_limit m_next m_beginsAt m_token m_error m_errorAt m_errorPosition m_nested m_codeCount)), (a_m_fam, .inl (cJ, 130, .inr (.inl m_fam)))] := hD
    refine lv_aload_n hx hb dX10_keyOf_23 rfl (lv_at hl 1 rfl) ?_
    refine lv_iload_n hx hb dX10_keyOf_24 rfl (lv_at hl 0 rfl) ?_
    obtain ⟨r25, h9, hf⟩ := ob_s hf
    refine gcV (index := 135) S hE (c_X10_referred ad a_m_fam m_undoCount m_thrown m_hasSnapshot m_rows m_lineLength m_formattedLength m_bufferLength m_limit m_next m_beginsAt m_token m_error m_errorAt m_errorPosition m_nested m_codeCount m_fam m_generation m_level t16 r25 h9) mX10_referred tw1540 ⟨Nat.le_of_ble_eq_true rfl, Nat.le_of_ble_eq_true rfl⟩ hP hD hS hA ⟨Nat.zero_le _, Nat.zero_le _⟩ 2 10 rfl rfl rfl (wr := []) [2, 3, 0, 1] [] rfl rfl rfl rfl (by decide) (As := [.int t16]) (rest := [.int r20]) rfl hl.1 rfl (Nat.le_of_ble_eq_true rfl) dX10_keyOf_25 (fun H locs hP hD hS => ?_)
    refine W.eq (g2 := F0 m 28 ls [.int r25, .int r20]) rfl ?_
    have hP : va_P (dC, dI) vwCl [(ad 0, .inr (10, oM ad m_undoCount m_thrown m_hasSnapshot a_m_fam m_rows m_lineLength m_formattedLength m_bufferLength m_limit m_next m_beginsAt m_token m_error m_errorAt m_errorPosition m_nested m_codeCount)), (a_m_fam, .inl (cJ, 130, .inr (.inl m_fam))), ((ad 9), .inl (cI, 16, .inl m_generation)), ((ad 10), .inl (cI, 12, .inl m_level))] H := hP
    have hD : va_D A [(ad 0, .inr (10, oM ad m_undoCount m_thrown m_hasSnapshot a_m_fam m_rows m_lineLength m_formattedLength m_bufferLength m_limit m_next m_beginsAt m_token m_error m_errorAt m_errorPosition m_nested m_codeCount)), (a_m_fam, .inl (cJ, 130, .inr (.inl m_fam))), ((ad 9), .inl (cI, 16, .inl m_generation)), ((ad 10), .inl (cI, 12, .inl m_level))] := hD
    refine lv_icmp_ne (tgt := 40) hx hb dX10_keyOf_28 (by decide) (fun h9 => ?_) (fun h9 => ?_)
    · have hf := itf h9 hf
      refine lv_aload_n hx hb dX10_keyOf_40 rfl (lv_at hl 1 rfl) ?_
      refine lv_iload_n hx hb dX10_keyOf_41 rfl (lv_at hl 0 rfl) ?_
      refine lv_iconst (v := 0) hx hb dX10_keyOf_42 (by decide) ?_
      obtain ⟨r43, h9, hf⟩ := ob_s hf
      refine gcV (index := 102) S hE (c_X10_partner ad a_m_fam m_undoCount m_thrown m_hasSnapshot m_rows m_lineLength m_formattedLength m_bufferLength m_limit m_next m_beginsAt m_token m_error m_errorAt m_errorPosition m_nested m_codeCount m_fam t16 (0 : Int32) r43 h9) mX10_partner tw1527 ⟨Nat.le_of_ble_eq_true rfl, Nat.le_of_ble_eq_true rfl⟩ hP hD hS hA ⟨Nat.zero_le _, Nat.zero_le _⟩ 0 10 rfl rfl rfl (wr := [((ad 9), .inl (cI, 16, .inl m_generation)), ((ad 10), .inl (cI, 12, .inl m_level))]) [0, 1] [2, 3] rfl rfl rfl rfl (by decide) (As := [.int t16, .int (0 : Int32)]) (rest := []) rfl hl.1 rfl (Nat.le_of_ble_eq_true rfl) dX10_keyOf_43 (fun H locs hP hD hS => ?_)
      refine W.eq (g2 := F0 m 46 ls [.int r43]) rfl ?_
      have hP : va_P (dC, dI) vwCl [((ad 9), .inl (cI, 16, .inl m_generation)), ((ad 10), .inl (cI, 12, .inl m_level)), (ad 0, .inr (10, oM ad m_undoCount m_thrown m_hasSnapshot a_m_fam m_rows m_lineLength m_formattedLength m_bufferLength m_limit m_next m_beginsAt m_token m_error m_errorAt m_errorPosition m_nested m_codeCount)), (a_m_fam, .inl (cJ, 130, .inr (.inl m_fam)))] H := hP
      have hD : va_D A [((ad 9), .inl (cI, 16, .inl m_generation)), ((ad 10), .inl (cI, 12, .inl m_level)), (ad 0, .inr (10, oM ad m_undoCount m_thrown m_hasSnapshot a_m_fam m_rows m_lineLength m_formattedLength m_bufferLength m_limit m_next m_beginsAt m_token m_error m_errorAt m_errorPosition m_nested m_codeCount)), (a_m_fam, .inl (cJ, 130, .inr (.inl m_fam)))] := hD
      refine lv_istore_n (lv' := [(3, .int r43), (2, .int t16), (0, .ref (ad 0)), (1, .int v1)]) hx hb dX10_keyOf_46 rfl hl (by decide) rfl (fun ls hl => ?_)
      exact J47 r43 H locs ls hf (hP.sub [2, 3, 0, 1] rfl) (hD.sub [2, 3, 0, 1] (by decide) rfl) hS (lv_sub hl [2, 0] rfl)
    · have hf := itt h9 hf
      refine lv_aload_n hx hb dX10_keyOf_31 rfl (lv_at hl 1 rfl) ?_
      refine lv_iload_n hx hb dX10_keyOf_32 rfl (lv_at hl 0 rfl) ?_
      refine lv_iconst (v := 1) hx hb dX10_keyOf_33 (by decide) ?_
      obtain ⟨r34, h9, hf⟩ := ob_s hf
      refine gcV (index := 102) S hE (c_X10_partner ad a_m_fam m_undoCount m_thrown m_hasSnapshot m_rows m_lineLength m_formattedLength m_bufferLength m_limit m_next m_beginsAt m_token m_error m_errorAt m_errorPosition m_nested m_codeCount m_fam t16 (1 : Int32) r34 h9) mX10_partner tw1527 ⟨Nat.le_of_ble_eq_true rfl, Nat.le_of_ble_eq_true rfl⟩ hP hD hS hA ⟨Nat.zero_le _, Nat.zero_le _⟩ 0 10 rfl rfl rfl (wr := [((ad 9), .inl (cI, 16, .inl m_generation)), ((ad 10), .inl (cI, 12, .inl m_level))]) [0, 1] [2, 3] rfl rfl rfl rfl (by decide) (As := [.int t16, .int (1 : Int32)]) (rest := []) rfl hl.1 rfl (Nat.le_of_ble_eq_true rfl) dX10_keyOf_34 (fun H locs hP hD hS => ?_)
      refine W.eq (g2 := F0 m 37 ls [.int r34]) rfl ?_
      have hP : va_P (dC, dI) vwCl [((ad 9), .inl (cI, 16, .inl m_generation)), ((ad 10), .inl (cI, 12, .inl m_level)), (ad 0, .inr (10, oM ad m_undoCount m_thrown m_hasSnapshot a_m_fam m_rows m_lineLength m_formattedLength m_bufferLength m_limit m_next m_beginsAt m_token m_error m_errorAt m_errorPosition m_nested m_codeCount)), (a_m_fam, .inl (cJ, 130, .inr (.inl m_fam)))] H := hP
      have hD : va_D A [((ad 9), .inl (cI, 16, .inl m_generation)), ((ad 10), .inl (cI, 12, .inl m_level)), (ad 0, .inr (10, oM ad m_undoCount m_thrown m_hasSnapshot a_m_fam m_rows m_lineLength m_formattedLength m_bufferLength m_limit m_next m_beginsAt m_token m_error m_errorAt m_errorPosition m_nested m_codeCount)), (a_m_fam, .inl (cJ, 130, .inr (.inl m_fam)))] := hD
      refine lv_goto (tgt := 46) hx hb dX10_keyOf_37 (by decide) ?_
      refine lv_istore_n (lv' := [(3, .int r34), (2, .int t16), (0, .ref (ad 0)), (1, .int v1)]) hx hb dX10_keyOf_46 rfl hl (by decide) rfl (fun ls hl => ?_)
      exact J47 r34 H locs ls hf (hP.sub [2, 3, 0, 1] rfl) (hD.sub [2, 3, 0, 1] (by decide) rfl) hS (lv_sub hl [2, 0] rfl)
  · have hf := itf h9 hf
    refine lv_aload_n hx hb dX10_keyOf_6 rfl (lv_at hl 0 rfl) ?_
    refine lv_iload_n hx hb dX10_keyOf_7 rfl (lv_at hl 1 rfl) ?_
    obtain ⟨r8, h9, hf⟩ := ob_s hf
    refine gcV (index := 348) S hE (c_X10_mainKey ad a_m_fam m_undoCount m_thrown m_hasSnapshot m_rows m_lineLength m_formattedLength m_bufferLength m_limit m_next m_beginsAt m_token m_error m_errorAt m_errorPosition m_nested m_codeCount m_fam m_generation m_level v1 r8 h9) mX10_mainKey tw1898 ⟨Nat.le_of_ble_eq_true rfl, Nat.le_of_ble_eq_true rfl⟩ hP hD hS hA ⟨Nat.zero_le _, Nat.zero_le _⟩ 0 10 rfl rfl rfl (wr := []) [0, 1, 2, 3] [] rfl rfl rfl rfl (by decide) (As := [.int v1]) (rest := []) rfl hl.1 rfl (Nat.le_of_ble_eq_true rfl) dX10_keyOf_8 (fun H locs hP hD hS => ?_)
    refine W.eq (g2 := F0 m 11 ls [.int r8]) rfl ?_
    have hP : va_P (dC, dI) vwCl [(ad 0, .inr (10, oM ad m_undoCount m_thrown m_hasSnapshot a_m_fam m_rows m_lineLength m_formattedLength m_bufferLength m_limit m_next m_beginsAt m_token m_error m_errorAt m_errorPosition m_nested m_codeCount)), (a_m_fam, .inl (cJ, 130, .inr (.inl m_fam))), ((ad 9), .inl (cI, 16, .inl m_generation)), ((ad 10), .inl (cI, 12, .inl m_level))] H := hP
    have hD : va_D A [(ad 0, .inr (10, oM ad m_undoCount m_thrown m_hasSnapshot a_m_fam m_rows m_lineLength m_formattedLength m_bufferLength m_limit m_next m_beginsAt m_token m_error m_errorAt m_errorPosition m_nested m_codeCount)), (a_m_fam, .inl (cJ, 130, .inr (.inl m_fam))), ((ad 9), .inl (cI, 16, .inl m_generation)), ((ad 10), .inl (cI, 12, .inl m_level))] := hD
    cases hf
    exact g_iret S hr hlocks hP hD hS dX10_keyOf_11
end G_31_FamilyChartModel02
