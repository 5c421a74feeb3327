section G_21_Input
variable {l : Launch} {dC : Nat → ClassId} {dI : Nat → Nat → Nat} {cI cJ cZ cK : ClassId} {adK adV : Nat → Nat}
set_option maxHeartbeats 4000000 in
set_option maxRecDepth 100000 in
theorem c_X3_hasRoom (a_i a_i_bytes : Nat) (i_filled : Int32) (i_length : Int32) (i_kind : Int32) (i_start : Int32) (i_stop : Int32) (i_value : Int32) (i_errorCode : Int32) (i_errorStart : Int32) (r9 : Bool) (hf : p3_hasRoom i_filled = r9) : gM l dC dI cI cJ cZ cK yX3_hasRoom cX3_hasRoom 1 (some .boolean) (0) (0) [.ref a_i] [(a_i, .inr (3, [.ref a_i_bytes, .int i_filled, .int i_length, .int i_kind, .int i_start, .int i_stop, .int i_value, .int i_errorCode, .int i_errorStart]))] [(a_i, .inr (3, [.ref a_i_bytes, .int i_filled, .int i_length, .int i_kind, .int i_start, .int i_stop, .int i_value, .int i_errorCode, .int i_errorStart]))] (some (.int (bI r9))) := by
  refine g_start (own := RX3) (by decide +kernel) rfl (Nat.le_of_ble_eq_true rfl) ?_
  intro p e s m below meth c A ls S hr hlocks hE hP hD hS hA hl hin
  have hx := S.1
  have hb := S.2.1
  have hml := S.2.2.1
  have hown := S.2.2.2.1
  have htg : ∀ z ∈ gw, z.before ([.ref a_i] : List Value).toArray s = true := fun w h => S.2.2.2.2 w (List.mem_cons_of_mem _ h)
  have hl : lv_has ls 1 [(0, .ref a_i)] := hl
  have hS0 := hS
  obtain ⟨H, hH⟩ : ∃ H, H = s.heap := ⟨_, rfl⟩
  obtain ⟨locs, hlc⟩ : ∃ locs : List Loc, locs = [] := ⟨_, rfl⟩
  have hS : va_S A s.heap H locs := by rw [hH, hlc]; exact hS0
  have hP : va_P (dC, dI) vwCl [(a_i, .inr (3, [.ref a_i_bytes, .int i_filled, .int i_length, .int i_kind, .int i_start, .int i_stop, .int i_value, .int i_errorCode, .int i_errorStart]))] H := by rw [hH]; exact hP
  suffices hgo : W p l e ({ frames := 0, cells := 0, slots := 0, locals := 0 }) s m ([.ref a_i] : List Value).toArray below meth c H locs 0 0 (MQ below (gQ dC dI (some (.int (bI r9))) A [(a_i, .inr (3, [.ref a_i_bytes, .int i_filled, .int i_length, .int i_kind, .int i_start, .int i_stop, .int i_value, .int i_errorCode, .int i_errorStart]))]) ([.ref a_i] : List Value).toArray s 0 0 A) (F0 m 0 ls []) by rw [hH, hlc] at hgo; exact hgo
  rw [p3_hasRoom] at hf
  refine lv_aload_n hx hb dX3_hasRoom_0 rfl (lv_at hl 0 rfl) ?_
  refine va_get (D := (dC, dI)) (ci := 3) (v := .int i_filled) (C := RX3) (T := TX3) (N := 9) hx hb htg inX3 hown hE.1 hP 0 rfl rfl 1 (by decide) (htg _ tw38) (fun _ h9 => h9) rfl dX3_hasRoom_1 ?_
  refine lv_bipush (v := 20) hx hb dX3_hasRoom_4 (by decide) ?_
  refine lv_iadd hx hb dX3_hasRoom_6 ?_
  refine lv_sipush (v := 800) hx hb dX3_hasRoom_7 (by decide) ?_
  refine lv_icmp_gt (tgt := 17) hx hb dX3_hasRoom_10 (by decide) (fun h9 => ?_) (fun h9 => ?_)
  · have hf := itt h9 hf
    refine lv_iconst (v := 0) hx hb dX3_hasRoom_17 (by decide) ?_
    cases hf
    exact g_zret S hr (nar_bI false) hlocks hP hD hS dX3_hasRoom_18
  · have hf := itf h9 hf
    refine lv_iconst (v := 1) hx hb dX3_hasRoom_13 (by decide) ?_
    refine lv_goto (tgt := 18) hx hb dX3_hasRoom_14 (by decide) ?_
    cases hf
    exact g_zret S hr (nar_bI true) hlocks hP hD hS dX3_hasRoom_18
set_option maxHeartbeats 4000000 in
set_option maxRecDepth 100000 in
theorem c_X3_append (a_i a_i_bytes : Nat) (i_filled : Int32) (i_length : Int32) (i_kind : Int32) (i_start : Int32) (i_stop : Int32) (i_value : Int32) (i_errorCode : Int32) (i_errorStart : Int32) (i_bytes : Nat → Int32) (v1 : Int32) (i_bytes_9 : Nat → Int32) (i_filled_9 : Int32) (hf : p3_append i_filled i_bytes v1 = some (i_bytes_9, i_filled_9)) : gM l dC dI cI cJ cZ cK yX3_append cX3_append 3 none (1) (22) [.ref a_i, .int v1] [(a_i, .inr (3, [.ref a_i_bytes, .int i_filled, .int i_length, .int i_kind, .int i_start, .int i_stop, .int i_value, .int i_errorCode, .int i_errorStart])), (a_i_bytes, .inl (cI, 800, .inl i_bytes))] [(a_i, .inr (3, [.ref a_i_bytes, .int i_filled_9, .int i_length, .int i_kind, .int i_start, .int i_stop, .int i_value, .int i_errorCode, .int i_errorStart])), (a_i_bytes, .inl (cI, 800, .inl i_bytes_9))] none := by
  refine g_start (own := RX3) (by decide +kernel) rfl (Nat.le_of_ble_eq_true rfl) ?_
  intro p e s m below meth c A ls S hr hlocks hE hP hD hS hA hl hin
  have hx := S.1
  have hb := S.2.1
  have hml := S.2.2.1
  have hown := S.2.2.2.1
  have htg : ∀ z ∈ gw, z.before ([.ref a_i, .int v1] : List Value).toArray s = true := fun w h => S.2.2.2.2 w (List.mem_cons_of_mem _ h)
  have hl : lv_has ls 3 [(0, .ref a_i), (1, .int v1)] := hl
  have hS0 := hS
  obtain ⟨H, hH⟩ : ∃ H, H = s.heap := ⟨_, rfl⟩
  obtain ⟨locs, hlc⟩ : ∃ locs : List Loc, locs = [] := ⟨_, rfl⟩
  have hS : va_S A s.heap H locs := by rw [hH, hlc]; exact hS0
  have hP : va_P (dC, dI) vwCl [(a_i, .inr (3, [.ref a_i_bytes, .int i_filled, .int i_length, .int i_kind, .int i_start, .int i_stop, .int i_value, .int i_errorCode, .int i_errorStart])), (a_i_bytes, .inl (cI, 800, .inl i_bytes))] H := by rw [hH]; exact hP
  suffices hgo : W p l e ({ frames := 1, cells := 0, slots := 0, locals := 22 }) s m ([.ref a_i, .int v1] : List Value).toArray below meth c H locs 0 0 (MQ below (gQ dC dI none A [(a_i, .inr (3, [.ref a_i_bytes, .int i_filled_9, .int i_length, .int i_kind, .int i_start, .int i_stop, .int i_value, .int i_errorCode, .int i_errorStart])), (a_i_bytes, .inl (cI, 800, .inl i_bytes_9))]) ([.ref a_i, .int v1] : List Value).toArray s 0 0 A) (F0 m 0 ls []) by rw [hH, hlc] at hgo; exact hgo
  rw [p3_append] at hf
  have J41 : ∀ (i_filled_41 : Int32) (i_bytes_41 : Nat → Int32) (H : Heap) (locs : List Loc) (ls : Array Slot), p3_append_J41 i_filled_41 i_bytes_41 = some (i_bytes_9, i_filled_9) → va_P (dC, dI) vwCl [(a_i, .inr (3, [.ref a_i_bytes, .int i_filled_41, .int i_length, .int i_kind, .int i_start, .int i_stop, .int i_value, .int i_errorCode, .int i_errorStart])), (a_i_bytes, .inl (cI, 800, .inl i_bytes_41))] H → va_D A [(a_i, .inr (3, [.ref a_i_bytes, .int i_filled_41, .int i_length, .int i_kind, .int i_start, .int i_stop, .int i_value, .int i_errorCode, .int i_errorStart])), (a_i_bytes, .inl (cI, 800, .inl i_bytes_41))] → va_S A s.heap H locs → lv_has ls 3 [] → W p l e ({ frames := 1, cells := 0, slots := 0, locals := 22 }) s m ([.ref a_i, .int v1] : List Value).toArray below meth c H locs 0 0 (MQ below (gQ dC dI none A [(a_i, .inr (3, [.ref a_i_bytes, .int i_filled_9, .int i_length, .int i_kind, .int i_start, .int i_stop, .int i_value, .int i_errorCode, .int i_errorStart])), (a_i_bytes, .inl (cI, 800, .inl i_bytes_9))]) ([.ref a_i, .int v1] : List Value).toArray s 0 0 A) (F0 m 41 ls []) := by
    intro i_filled_41 i_bytes_41 H locs ls hf hP hD hS hl
    rw [p3_append_J41] at hf
    cases hf
    exact g_vret S hr hlocks hP hD hS dX3_append_41
  refine lv_bipush (v := 24) hx hb dX3_append_0 (by decide) ?_
  refine lv_istore_n (lv' := [(2, .int (24 : Int32)), (0, .ref a_i), (1, .int v1)]) hx hb dX3_append_2 rfl hl (by decide) rfl (fun ls hl => ?_)
  have K3 : ∀ (n3 : Nat) (v2_3 : Int32) (i_bytes_3 : Nat → Int32) (i_filled_3 : Int32) (ex3 : (Nat → Int32) × Int32) (H : Heap) (locs : List Loc) (ls : Array Slot), p3_append_L3 v1 n3 v2_3 i_bytes_3 i_filled_3 = some ex3 → (uc2 fun i_bytes_x3 i_filled_x3 => p3_append_J41 i_filled_x3 i_bytes_x3) ex3 = some (i_bytes_9, i_filled_9) → va_P (dC, dI) vwCl [(a_i, .inr (3, [.ref a_i_bytes, .int i_filled_3, .int i_length, .int i_kind, .int i_start, .int i_stop, .int i_value, .int i_errorCode, .int i_errorStart])), (a_i_bytes, .inl (cI, 800, .inl i_bytes_3))] H → va_D A [(a_i, .inr (3, [.ref a_i_bytes, .int i_filled_3, .int i_length, .int i_kind, .int i_start, .int i_stop, .int i_value, .int i_errorCode, .int i_errorStart])), (a_i_bytes, .inl (cI, 800, .inl i_bytes_3))] → va_S A s.heap H locs → lv_has ls 3 [(0, .ref a_i), (1, .int v1), (2, .int v2_3)] → W p l e ({ frames := 1, cells := 0, slots := 0, locals := 22 }) s m ([.ref a_i, .int v1] : List Value).toArray below meth c H locs 0 0 (MQ below (gQ dC dI none A [(a_i, .inr (3, [.ref a_i_bytes, .int i_filled_9, .int i_length, .int i_kind, .int i_start, .int i_stop, .int i_value, .int i_errorCode, .int i_errorStart])), (a_i_bytes, .inl (cI, 800, .inl i_bytes_9))]) ([.ref a_i, .int v1] : List Value).toArray s 0 0 A) (F0 m 3 ls []) := by
    intro n3
    induction n3 with
    | zero => intro v2_3 i_bytes_3 i_filled_3 ex3 H locs ls hf; rw [p3_append_L3] at hf; cases hf
    | succ n3 ih3 =>
      intro v2_3 i_bytes_3 i_filled_3 ex3 H locs ls hf hk3 hP hD hS hl
      rw [p3_append_L3, p3_append_L3_B] at hf
      refine lv_iload_n hx hb dX3_append_3 rfl (lv_at hl 2 rfl) ?_
      refine lv_if_lt (tgt := 41) hx hb dX3_append_4 (by decide) (fun h9 => ?_) (fun h9 => ?_)
      · have hf := itt h9 hf
        cases hf
        have hf := hk3
        have hf := uc2_e hf
        exact J41 i_filled_3 i_bytes_3 H locs ls hf hP hD hS (lv_sub hl [] rfl)
      · have hf := itf h9 hf
        refine lv_aload_n hx hb dX3_append_7 rfl (lv_at hl 0 rfl) ?_
        refine va_get (D := (dC, dI)) (ci := 3) (v := .ref a_i_bytes) (C := RX3) (T := TX3) (N := 9) hx hb htg inX3 hown hE.1 hP 0 rfl rfl 0 (by decide) (htg _ tw37) (fun _ h9 => h9) rfl dX3_append_8 ?_
        refine lv_aload_n hx hb dX3_append_11 rfl (lv_at hl 0 rfl) ?_
        refine va_get (D := (dC, dI)) (ci := 3) (v := .int i_filled_3) (C := RX3) (T := TX3) (N := 9) hx hb htg inX3 hown hE.1 hP 0 rfl rfl 1 (by decide) (htg _ tw38) (fun _ h9 => h9) rfl dX3_append_12 ?_
        refine lv_iload_n hx hb dX3_append_15 rfl (lv_at hl 1 rfl) ?_
        refine lv_iload_n hx hb dX3_append_16 rfl (lv_at hl 2 rfl) ?_
        refine lv_iushr hx hb dX3_append_17 rfl ?_
        refine lv_sipush (v := 255) hx hb dX3_append_18 (by decide) ?_
        refine lv_iand hx hb dX3_append_21 ?_
        obtain ⟨i_bytes_22, h9⟩ : ∃ z, pPut 800 i_bytes_3 i_filled_3 (((v1.toUInt32 >>> (v2_3.toUInt32 &&& Int32.toUInt32 31)).toInt32) &&& (255 : Int32)) = z := ⟨_, rfl⟩
        have hf := lb_e h9.symm hf
        refine gcSN (index := 22) (host := "FamilyChart") S hE (c_X9_put a_i_bytes i_bytes_3 800 (Nat.le_of_ble_eq_true rfl) i_filled_3 (((v1.toUInt32 >>> (v2_3.toUInt32 &&& Int32.toUInt32 31)).toInt32) &&& (255 : Int32)) i_bytes_22 h9) mX9_put nw17 ⟨Nat.le_of_ble_eq_true rfl, Nat.le_of_ble_eq_true rfl⟩ hP hD hS hA ⟨Nat.zero_le _, Nat.zero_le _⟩ (wr := [(a_i, .inr (3, [.ref a_i_bytes, .int i_filled_3, .int i_length, .int i_kind, .int i_start, .int i_stop, .int i_value, .int i_errorCode, .int i_errorStart]))]) [1] [0] rfl rfl rfl rfl (by decide) (As := [.ref a_i_bytes, .int i_filled_3, .int (((v1.toUInt32 >>> (v2_3.toUInt32 &&& Int32.toUInt32 31)).toInt32) &&& (255 : Int32))]) (rest := []) rfl hl.1 rfl (Nat.le_of_ble_eq_true rfl) dX3_append_22 (fun H locs hP hD hS => ?_)
        refine W.eq (g2 := F0 m 25 ls []) rfl ?_
        have hP : va_P (dC, dI) vwCl [(a_i, .inr (3, [.ref a_i_bytes, .int i_filled_3, .int i_length, .int i_kind, .int i_start, .int i_stop, .int i_value, .int i_errorCode, .int i_errorStart])), (a_i_bytes, .inl (cI, 800, .inl i_bytes_22))] H := hP
        have hD : va_D A [(a_i, .inr (3, [.ref a_i_bytes, .int i_filled_3, .int i_length, .int i_kind, .int i_start, .int i_stop, .int i_value, .int i_errorCode, .int i_errorStart])), (a_i_bytes, .inl (cI, 800, .inl i_bytes_22))] := hD
        refine lv_aload_n hx hb dX3_append_25 rfl (lv_at hl 0 rfl) ?_
        refine lv_dup hx hb dX3_append_26 rfl ?_
        refine va_get (D := (dC, dI)) (ci := 3) (v := .int i_filled_3) (C := RX3) (T := TX3) (N := 9) hx hb htg inX3 hown hE.1 hP 0 rfl rfl 1 (by decide) (htg _ tw38) (fun _ h9 => h9) rfl dX3_append_27 ?_
        refine lv_iconst (v := 1) hx hb dX3_append_30 (by decide) ?_
        refine lv_iadd hx hb dX3_append_31 ?_
        refine lv_topi (fun t32 h9 => ?_)
        have hf := lb_e h9 hf
        refine va_put (D := (dC, dI)) (ci := 3) (v := .int t32) (ty := .int) (C := RX3) (T := TX3) (N := 9) hx hb htg inX3 tyX3 tyX3_ok nmX3 hown hE.1 hP hD hS 0 rfl rfl 1 (by decide) (htg _ tw38) (fun _ h9 => h9) rfl (by decide +kernel) rfl rfl (Nat.le_of_ble_eq_true rfl) dX3_append_32 (fun H locs hP hD hS => ?_)
        have hP : va_P (dC, dI) vwCl [(a_i, .inr (3, [.ref a_i_bytes, .int t32, .int i_length, .int i_kind, .int i_start, .int i_stop, .int i_value, .int i_errorCode, .int i_errorStart])), (a_i_bytes, .inl (cI, 800, .inl i_bytes_22))] H := hP
        have hD : va_D A [(a_i, .inr (3, [.ref a_i_bytes, .int t32, .int i_length, .int i_kind, .int i_start, .int i_stop, .int i_value, .int i_errorCode, .int i_errorStart])), (a_i_bytes, .inl (cI, 800, .inl i_bytes_22))] := hD
        obtain ⟨t35, h9⟩ : ∃ z : Int32, z = (v2_3 + (-8 : Int32)) := ⟨_, rfl⟩
        have hf := lb_e h9 hf
        refine lv_iinc (v := t35) (lv' := [(2, .int t35), (0, .ref a_i), (1, .int v1)]) hx hb dX3_append_35 hl (k := 2) rfl (by rw [h9]; rfl) (by decide) rfl (fun ls hl => ?_)
        refine lv_goto (tgt := 3) hx hb dX3_append_38 (by decide) ?_
        exact ih3 t35 i_bytes_22 t32 ex3 H locs ls hf hk3 hP hD hS (lv_sub hl [1, 2, 0] rfl)
  obtain ⟨ex, h9, hf⟩ := ob_s hf
  exact K3 FU (24 : Int32) i_bytes i_filled ex H locs ls h9 hf hP hD hS (lv_sub hl [1, 2, 0] rfl)
set_option maxHeartbeats 4000000 in
set_option maxRecDepth 100000 in
theorem c_X3_kindOf (v0 : Int32) (r9 : Int32) (hf : p3_kindOf v0 = r9) : gM l dC dI cI cJ cZ cK yX3_kindOf cX3_kindOf 1 (some .int) (0) (0) [.int v0] [] [] (some (.int r9)) := by
  refine g_start (own := RX3) (by decide +kernel) rfl (Nat.le_of_ble_eq_true rfl) ?_
  intro p e s m below meth c A ls S hr hlocks hE hP hD hS hA hl hin
  have hx := S.1
  have hb := S.2.1
  have hml := S.2.2.1
  have hown := S.2.2.2.1
  have htg : ∀ z ∈ gw, z.before ([.int v0] : List Value).toArray s = true := fun w h => S.2.2.2.2 w (List.mem_cons_of_mem _ h)
  have hl : lv_has ls 1 [(0, .int v0)] := hl
  have hS0 := hS
  obtain ⟨H, hH⟩ : ∃ H, H = s.heap := ⟨_, rfl⟩
  obtain ⟨locs, hlc⟩ : ∃ locs : List Loc, locs = [] := ⟨_, rfl⟩
  have hS : va_S A s.heap H locs := by rw [hH, hlc]; exact hS0
  have hP : va_P (dC, dI) vwCl [] H := by rw [hH]; exact hP
  suffices hgo : W p l e ({ frames := 0, cells := 0, slots := 0, locals := 0 }) s m ([.int v0] : List Value).toArray below meth c H locs 0 0 (MQ below (gQ dC dI (some (.int r9)) A []) ([.int v0] : List Value).toArray s 0 0 A) (F0 m 0 ls []) by rw [hH, hlc] at hgo; exact hgo
  rw [p3_kindOf] at hf
  have J28 : ∀  (H : Heap) (locs : List Loc) (ls : Array Slot), p3_kindOf_J28 v0 = r9 → va_P (dC, dI) vwCl [] H → va_D A [] → va_S A s.heap H locs → lv_has ls 1 [(0, .int v0)] → W p l e ({ frames := 0, cells := 0, slots := 0, locals := 0 }) s m ([.int v0] : List Value).toArray below meth c H locs 0 0 (MQ below (gQ dC dI (some (.int r9)) A []) ([.int v0] : List Value).toArray s 0 0 A) (F0 m 28 ls []) := by
    intro  H locs ls hf hP hD hS hl
    rw [p3_kindOf_J28] at hf
    refine lv_iload_n hx hb dX3_kindOf_28 rfl (lv_at hl 0 rfl) ?_
    refine lv_bipush (v := 48) hx hb dX3_kindOf_29 (by decide) ?_
    refine lv_icmp_lt (tgt := 44) hx hb dX3_kindOf_31 (by decide) (fun h9 => ?_) (fun h9 => ?_)
    · have hf := itt h9 hf
      refine lv_iconst (v := 3) hx hb dX3_kindOf_44 (by decide) ?_
      cases hf
      exact g_iret S hr hlocks hP hD hS dX3_kindOf_45
    · have hf := itf h9 hf
      refine lv_iload_n hx hb dX3_kindOf_34 rfl (lv_at hl 0 rfl) ?_
      refine lv_bipush (v := 57) hx hb dX3_kindOf_35 (by decide) ?_
      refine lv_icmp_gt (tgt := 44) hx hb dX3_kindOf_37 (by decide) (fun h9 => ?_) (fun h9 => ?_)
      · have hf := itt h9 hf
        refine lv_iconst (v := 3) hx hb dX3_kindOf_44 (by decide) ?_
        cases hf
        exact g_iret S hr hlocks hP hD hS dX3_kindOf_45
      · have hf := itf h9 hf
        refine lv_iconst (v := 2) hx hb dX3_kindOf_40 (by decide) ?_
        refine lv_goto (tgt := 45) hx hb dX3_kindOf_41 (by decide) ?_
        cases hf
        exact g_iret S hr hlocks hP hD hS dX3_kindOf_45
  refine lv_iload_n hx hb dX3_kindOf_0 rfl (lv_at hl 0 rfl) ?_
  refine lv_bipush (v := 32) hx hb dX3_kindOf_1 (by decide) ?_
  refine lv_icmp_eq (tgt := 12) hx hb dX3_kindOf_3 (by decide) (fun h9 => ?_) (fun h9 => ?_)
  · have hf := itt h9 hf
    refine lv_iconst (v := 4) hx hb dX3_kindOf_12 (by decide) ?_
    cases hf
    exact g_iret S hr hlocks hP hD hS dX3_kindOf_13
  · have hf := itf h9 hf
    refine lv_iload_n hx hb dX3_kindOf_6 rfl (lv_at hl 0 rfl) ?_
    refine lv_bipush (v := 10) hx hb dX3_kindOf_7 (by decide) ?_
    refine lv_icmp_ne (tgt := 14) hx hb dX3_kindOf_9 (by decide) (fun h9 => ?_) (fun h9 => ?_)
    · have hf := itf h9 hf
      refine lv_iload_n hx hb dX3_kindOf_14 rfl (lv_at hl 0 rfl) ?_
      refine lv_bipush (v := 97) hx hb dX3_kindOf_15 (by decide) ?_
      refine lv_icmp_lt (tgt := 28) hx hb dX3_kindOf_17 (by decide) (fun h9 => ?_) (fun h9 => ?_)
      · have hf := itt h9 hf
        exact J28 H locs ls hf hP hD hS (lv_sub hl [0] rfl)
      · have hf := itf h9 hf
        refine lv_iload_n hx hb dX3_kindOf_20 rfl (lv_at hl 0 rfl) ?_
        refine lv_bipush (v := 122) hx hb dX3_kindOf_21 (by decide) ?_
        refine lv_icmp_gt (tgt := 28) hx hb dX3_kindOf_23 (by decide) (fun h9 => ?_) (fun h9 => ?_)
        · have hf := itt h9 hf
          exact J28 H locs ls hf hP hD hS (lv_sub hl [0] rfl)
        · have hf := itf h9 hf
          refine lv_iconst (v := 1) hx hb dX3_kindOf_26 (by decide) ?_
          cases hf
          exact g_iret S hr hlocks hP hD hS dX3_kindOf_27
    · have hf := itt h9 hf
      refine lv_iconst (v := 4) hx hb dX3_kindOf_12 (by decide) ?_
      cases hf
      exact g_iret S hr hlocks hP hD hS dX3_kindOf_13
set_option maxHeartbeats 4000000 in
set_option maxRecDepth 100000 in
theorem c_X3_isFine (a_i a_i_bytes : Nat) (i_filled : Int32) (i_length : Int32) (i_kind : Int32) (i_start : Int32) (i_stop : Int32) (i_value : Int32) (i_errorCode : Int32) (i_errorStart : Int32) (r9 : Bool) (hf : p3_isFine i_errorCode = r9) : gM l dC dI cI cJ cZ cK yX3_isFine cX3_isFine 1 (some .boolean) (0) (0) [.ref a_i] [(a_i, .inr (3, [.ref a_i_bytes, .int i_filled, .int i_length, .int i_kind, .int i_start, .int i_stop, .int i_value, .int i_errorCode, .int i_errorStart]))] [(a_i, .inr (3, [.ref a_i_bytes, .int i_filled, .int i_length, .int i_kind, .int i_start, .int i_stop, .int i_value, .int i_errorCode, .int i_errorStart]))] (some (.int (bI r9))) := by
  refine g_start (own := RX3) (by decide +kernel) rfl (Nat.le_of_ble_eq_true rfl) ?_
  intro p e s m below meth c A ls S hr hlocks hE hP hD hS hA hl hin
  have hx := S.1
  have hb := S.2.1
  have hml := S.2.2.1
  have hown := S.2.2.2.1
  have htg : ∀ z ∈ gw, z.before ([.ref a_i] : List Value).toArray s = true := fun w h => S.2.2.2.2 w (List.mem_cons_of_mem _ h)
  have hl : lv_has ls 1 [(0, .ref a_i)] := hl
  have hS0 := hS
  obtain ⟨H, hH⟩ : ∃ H, H = s.heap := ⟨_, rfl⟩
  obtain ⟨locs, hlc⟩ : ∃ locs : List Loc, locs = [] := ⟨_, rfl⟩
  have hS : va_S A s.heap H locs := by rw [hH, hlc]; exact hS0
  have hP : va_P (dC, dI) vwCl [(a_i, .inr (3, [.ref a_i_bytes, .int i_filled, .int i_length, .int i_kind, .int i_start, .int i_stop, .int i_value, .int i_errorCode, .int i_errorStart]))] H := by rw [hH]; exact hP
  suffices hgo : W p l e ({ frames := 0, cells := 0, slots := 0, locals := 0 }) s m ([.ref a_i] : List Value).toArray below meth c H locs 0 0 (MQ below (gQ dC dI (some (.int (bI r9))) A [(a_i, .inr (3, [.ref a_i_bytes, .int i_filled, .int i_length, .int i_kind, .int i_start, .int i_stop, .int i_value, .int i_errorCode, .int i_errorStart]))]) ([.ref a_i] : List Value).toArray s 0 0 A) (F0 m 0 ls []) by rw [hH, hlc] at hgo; exact hgo
  rw [p3_isFine] at hf
  refine lv_aload_n hx hb dX3_isFine_0 rfl (lv_at hl 0 rfl) ?_
  refine va_get (D := (dC, dI)) (ci := 3) (v := .int i_errorCode) (C := RX3) (T := TX3) (N := 9) hx hb htg inX3 hown hE.1 hP 0 rfl rfl 7 (by decide) (htg _ tw48) (fun _ h9 => h9) rfl dX3_isFine_1 ?_
  refine lv_if_ne (tgt := 11) hx hb dX3_isFine_4 (by decide) (fun h9 => ?_) (fun h9 => ?_)
  · have hf := itf h9 hf
    refine lv_iconst (v := 0) hx hb dX3_isFine_11 (by decide) ?_
    cases hf
    exact g_zret S hr (nar_bI false) hlocks hP hD hS dX3_isFine_12
  · have hf := itt h9 hf
    refine lv_iconst (v := 1) hx hb dX3_isFine_7 (by decide) ?_
    refine lv_goto (tgt := 12) hx hb dX3_isFine_8 (by decide) ?_
    cases hf
    exact g_zret S hr (nar_bI true) hlocks hP hD hS dX3_isFine_12
set_option maxHeartbeats 4000000 in
set_option maxRecDepth 100000 in
theorem c_X3_fail (a_i a_i_bytes : Nat) (i_filled : Int32) (i_length : Int32) (i_kind : Int32) (i_start : Int32) (i_stop : Int32) (i_value : Int32) (i_errorCode : Int32) (i_errorStart : Int32) (v1 : Int32) (i_errorCode_9 : Int32) (i_errorStart_9 : Int32) (hf : p3_fail i_start i_errorCode i_errorStart v1 = (i_errorCode_9, i_errorStart_9)) : gM l dC dI cI cJ cZ cK yX3_fail cX3_fail 2 none (0) (0) [.ref a_i, .int v1] [(a_i, .inr (3, [.ref a_i_bytes, .int i_filled, .int i_length, .int i_kind, .int i_start, .int i_stop, .int i_value, .int i_errorCode, .int i_errorStart]))] [(a_i, .inr (3, [.ref a_i_bytes, .int i_filled, .int i_length, .int i_kind, .int i_start, .int i_stop, .int i_value, .int i_errorCode_9, .int i_errorStart_9]))] none := by
  refine g_start (own := RX3) (by decide +kernel) rfl (Nat.le_of_ble_eq_true rfl) ?_
  intro p e s m below meth c A ls S hr hlocks hE hP hD hS hA hl hin
  have hx := S.1
  have hb := S.2.1
  have hml := S.2.2.1
  have hown := S.2.2.2.1
  have htg : ∀ z ∈ gw, z.before ([.ref a_i, .int v1] : List Value).toArray s = true := fun w h => S.2.2.2.2 w (List.mem_cons_of_mem _ h)
  have hl : lv_has ls 2 [(0, .ref a_i), (1, .int v1)] := hl
  have hS0 := hS
  obtain ⟨H, hH⟩ : ∃ H, H = s.heap := ⟨_, rfl⟩
  obtain ⟨locs, hlc⟩ : ∃ locs : List Loc, locs = [] := ⟨_, rfl⟩
  have hS : va_S A s.heap H locs := by rw [hH, hlc]; exact hS0
  have hP : va_P (dC, dI) vwCl [(a_i, .inr (3, [.ref a_i_bytes, .int i_filled, .int i_length, .int i_kind, .int i_start, .int i_stop, .int i_value, .int i_errorCode, .int i_errorStart]))] H := by rw [hH]; exact hP
  suffices hgo : W p l e ({ frames := 0, cells := 0, slots := 0, locals := 0 }) s m ([.ref a_i, .int v1] : List Value).toArray below meth c H locs 0 0 (MQ below (gQ dC dI none A [(a_i, .inr (3, [.ref a_i_bytes, .int i_filled, .int i_length, .int i_kind, .int i_start, .int i_stop, .int i_value, .int i_errorCode_9, .int i_errorStart_9]))]) ([.ref a_i, .int v1] : List Value).toArray s 0 0 A) (F0 m 0 ls []) by rw [hH, hlc] at hgo; exact hgo
  rw [p3_fail] at hf
  refine lv_aload_n hx hb dX3_fail_0 rfl (lv_at hl 0 rfl) ?_
  refine va_get (D := (dC, dI)) (ci := 3) (v := .int i_errorCode) (C := RX3) (T := TX3) (N := 9) hx hb htg inX3 hown hE.1 hP 0 rfl rfl 7 (by decide) (htg _ tw48) (fun _ h9 => h9) rfl dX3_fail_1 ?_
  refine lv_if_ne (tgt := 20) hx hb dX3_fail_4 (by decide) (fun h9 => ?_) (fun h9 => ?_)
  · have hf := itf h9 hf
    cases hf
    exact g_vret S hr hlocks hP hD hS dX3_fail_20
  · have hf := itt h9 hf
    refine lv_aload_n hx hb dX3_fail_7 rfl (lv_at hl 0 rfl) ?_
    refine lv_iload_n hx hb dX3_fail_8 rfl (lv_at hl 1 rfl) ?_
    refine va_put (D := (dC, dI)) (ci := 3) (v := .int v1) (ty := .int) (C := RX3) (T := TX3) (N := 9) hx hb htg inX3 tyX3 tyX3_ok nmX3 hown hE.1 hP hD hS 0 rfl rfl 7 (by decide) (htg _ tw48) (fun _ h9 => h9) rfl (by decide +kernel) rfl rfl (Nat.le_of_ble_eq_true rfl) dX3_fail_9 (fun H locs hP hD hS => ?_)
    have hP : va_P (dC, dI) vwCl [(a_i, .inr (3, [.ref a_i_bytes, .int i_filled, .int i_length, .int i_kind, .int i_start, .int i_stop, .int i_value, .int v1, .int i_errorStart]))] H := hP
    have hD : va_D A [(a_i, .inr (3, [.ref a_i_bytes, .int i_filled, .int i_length, .int i_kind, .int i_start, .int i_stop, .int i_value, .int v1, .int i_errorStart]))] := hD
    refine lv_aload_n hx hb dX3_fail_12 rfl (lv_at hl 0 rfl) ?_
    refine lv_aload_n hx hb dX3_fail_13 rfl (lv_at hl 0 rfl) ?_
    refine va_get (D := (dC, dI)) (ci := 3) (v := .int i_start) (C := RX3) (T := TX3) (N := 9) hx hb htg inX3 hown hE.1 hP 0 rfl rfl 4 (by decide) (htg _ tw43) (fun _ h9 => h9) rfl dX3_fail_14 ?_
    refine va_put (D := (dC, dI)) (ci := 3) (v := .int i_start) (ty := .int) (C := RX3) (T := TX3) (N := 9) hx hb htg inX3 tyX3 tyX3_ok nmX3 hown hE.1 hP hD hS 0 rfl rfl 8 (by decide) (htg _ tw49) (fun _ h9 => h9) rfl (by decide +kernel) rfl rfl (Nat.le_of_ble_eq_true rfl) dX3_fail_17 (fun H locs hP hD hS => ?_)
    have hP : va_P (dC, dI) vwCl [(a_i, .inr (3, [.ref a_i_bytes, .int i_filled, .int i_length, .int i_kind, .int i_start, .int i_stop, .int i_value, .int v1, .int i_start]))] H := hP
    have hD : va_D A [(a_i, .inr (3, [.ref a_i_bytes, .int i_filled, .int i_length, .int i_kind, .int i_start, .int i_stop, .int i_value, .int v1, .int i_start]))] := hD
    cases hf
    exact g_vret S hr hlocks hP hD hS dX3_fail_20
set_option maxHeartbeats 4000000 in
set_option maxRecDepth 100000 in
theorem c_X3_wordLength (a_i a_i_bytes : Nat) (i_filled : Int32) (i_length : Int32) (i_kind : Int32) (i_start : Int32) (i_stop : Int32) (i_value : Int32) (i_errorCode : Int32) (i_errorStart : Int32) (r9 : Int32) (hf : p3_wordLength i_kind i_start i_stop = r9) : gM l dC dI cI cJ cZ cK yX3_wordLength cX3_wordLength 1 (some .int) (0) (0) [.ref a_i] [(a_i, .inr (3, [.ref a_i_bytes, .int i_filled, .int i_length, .int i_kind, .int i_start, .int i_stop, .int i_value, .int i_errorCode, .int i_errorStart]))] [(a_i, .inr (3, [.ref a_i_bytes, .int i_filled, .int i_length, .int i_kind, .int i_start, .int i_stop, .int i_value, .int i_errorCode, .int i_errorStart]))] (some (.int r9)) := by
  refine g_start (own := RX3) (by decide +kernel) rfl (Nat.le_of_ble_eq_true rfl) ?_
  intro p e s m below meth c A ls S hr hlocks hE hP hD hS hA hl hin
  have hx := S.1
  have hb := S.2.1
  have hml := S.2.2.1
  have hown := S.2.2.2.1
  have htg : ∀ z ∈ gw, z.before ([.ref a_i] : List Value).toArray s = true := fun w h => S.2.2.2.2 w (List.mem_cons_of_mem _ h)
  have hl : lv_has ls 1 [(0, .ref a_i)] := hl
  have hS0 := hS
  obtain ⟨H, hH⟩ : ∃ H, H = s.heap := ⟨_, rfl⟩
  obtain ⟨locs, hlc⟩ : ∃ locs : List Loc, locs = [] := ⟨_, rfl⟩
  have hS : va_S A s.heap H locs := by rw [hH, hlc]; exact hS0
  have hP : va_P (dC, dI) vwCl [(a_i, .inr (3, [.ref a_i_bytes, .int i_filled, .int i_length, .int i_kind, .int i_start, .int i_stop, .int i_value, .int i_errorCode, .int i_errorStart]))] H := by rw [hH]; exact hP
  suffices hgo : W p l e ({ frames := 0, cells := 0, slots := 0, locals := 0 }) s m ([.ref a_i] : List Value).toArray below meth c H locs 0 0 (MQ below (gQ dC dI (some (.int r9)) A [(a_i, .inr (3, [.ref a_i_bytes, .int i_filled, .int i_length, .int i_kind, .int i_start, .int i_stop, .int i_value, .int i_errorCode, .int i_errorStart]))]) ([.ref a_i] : List Value).toArray s 0 0 A) (F0 m 0 ls []) by rw [hH, hlc] at hgo; exact hgo
  rw [p3_wordLength] at hf
  refine lv_aload_n hx hb dX3_wordLength_0 rfl (lv_at hl 0 rfl) ?_
  refine va_get (D := (dC, dI)) (ci := 3) (v := .int i_kind) (C := RX3) (T := TX3) (N := 9) hx hb htg inX3 hown hE.1 hP 0 rfl rfl 3 (by decide) (htg _ tw42) (fun _ h9 => h9) rfl dX3_wordLength_1 ?_
  refine lv_iconst (v := 1) hx hb dX3_wordLength_4 (by decide) ?_
  refine lv_icmp_ne (tgt := 20) hx hb dX3_wordLength_5 (by decide) (fun h9 => ?_) (fun h9 => ?_)
  · have hf := itf h9 hf
    refine lv_iconst (v := 0) hx hb dX3_wordLength_20 (by decide) ?_
    cases hf
    exact g_iret S hr hlocks hP hD hS dX3_wordLength_21
  · have hf := itt h9 hf
    refine lv_aload_n hx hb dX3_wordLength_8 rfl (lv_at hl 0 rfl) ?_
    refine va_get (D := (dC, dI)) (ci := 3) (v := .int i_stop) (C := RX3) (T := TX3) (N := 9) hx hb htg inX3 hown hE.1 hP 0 rfl rfl 5 (by decide) (htg _ tw44) (fun _ h9 => h9) rfl dX3_wordLength_9 ?_
    refine lv_aload_n hx hb dX3_wordLength_12 rfl (lv_at hl 0 rfl) ?_
    refine va_get (D := (dC, dI)) (ci := 3) (v := .int i_start) (C := RX3) (T := TX3) (N := 9) hx hb htg inX3 hown hE.1 hP 0 rfl rfl 4 (by decide) (htg _ tw43) (fun _ h9 => h9) rfl dX3_wordLength_13 ?_
    refine lv_isub hx hb dX3_wordLength_16 ?_
    refine lv_goto (tgt := 21) hx hb dX3_wordLength_17 (by decide) ?_
    cases hf
    exact g_iret S hr hlocks hP hD hS dX3_wordLength_21
set_option maxHeartbeats 4000000 in
set_option maxRecDepth 100000 in
theorem c_X3_letter (a_i a_i_bytes : Nat) (i_filled : Int32) (i_length : Int32) (i_kind : Int32) (i_start : Int32) (i_stop : Int32) (i_value : Int32) (i_errorCode : Int32) (i_errorStart : Int32) (i_bytes : Nat → Int32) (v1 : Int32) (r9 : Int32) (hf : p3_letter i_start i_bytes v1 = r9) : gM l dC dI cI cJ cZ cK yX3_letter cX3_letter 2 (some .int) (1) (21) [.ref a_i, .int v1] [(a_i, .inr (3, [.ref a_i_bytes, .int i_filled, .int i_length, .int i_kind, .int i_start, .int i_stop, .int i_value, .int i_errorCode, .int i_errorStart])), (a_i_bytes, .inl (cI, 800, .inl i_bytes))] [(a_i, .inr (3, [.ref a_i_bytes, .int i_filled, .int i_length, .int i_kind, .int i_start, .int i_stop, .int i_value, .int i_errorCode, .int i_errorStart])), (a_i_bytes, .inl (cI, 800, .inl i_bytes))] (some (.int r9)) := by
  refine g_start (own := RX3) (by decide +kernel) rfl (Nat.le_of_ble_eq_true rfl) ?_
  intro p e s m below meth c A ls S hr hlocks hE hP hD hS hA hl hin
  have hx := S.1
  have hb := S.2.1
  have hml := S.2.2.1
  have hown := S.2.2.2.1
  have htg : ∀ z ∈ gw, z.before ([.ref a_i, .int v1] : List Value).toArray s = true := fun w h => S.2.2.2.2 w (List.mem_cons_of_mem _ h)
  have hl : lv_has ls 2 [(0, .ref a_i), (1, .int v1)] := hl
  have hS0 := hS
  obtain ⟨H, hH⟩ : ∃ H, H = s.heap := ⟨_, rfl⟩
  obtain ⟨locs, hlc⟩ : ∃ locs : List Loc, locs = [] := ⟨_, rfl⟩
  have hS : va_S A s.heap H locs := by rw [hH, hlc]; exact hS0
  have hP : va_P (dC, dI) vwCl [(a_i, .inr (3, [.ref a_i_bytes, .int i_filled, .int i_length, .int i_kind, .int i_start, .int i_stop, .int i_value, .int i_errorCode, .int i_errorStart])), (a_i_bytes, .inl (cI, 800, .inl i_bytes))] H := by rw [hH]; exact hP
  suffices hgo : W p l e ({ frames := 1, cells := 0, slots := 0, locals := 21 }) s m ([.ref a_i, .int v1] : List Value).toArray below meth c H locs 0 0 (MQ below (gQ dC dI (some (.int r9)) A [(a_i, .inr (3, [.ref a_i_bytes, .int i_filled, .int i_length, .int i_kind, .int i_start, .int i_stop, .int i_value, .int i_errorCode, .int i_errorStart])), (a_i_bytes, .inl (cI, 800, .inl i_bytes))]) ([.ref a_i, .int v1] : List Value).toArray s 0 0 A) (F0 m 0 ls []) by rw [hH, hlc] at hgo; exact hgo
  rw [p3_letter] at hf
  refine lv_aload_n hx hb dX3_letter_0 rfl (lv_at hl 0 rfl) ?_
  refine va_get (D := (dC, dI)) (ci := 3) (v := .ref a_i_bytes) (C := RX3) (T := TX3) (N := 9) hx hb htg inX3 hown hE.1 hP 0 rfl rfl 0 (by decide) (htg _ tw37) (fun _ h9 => h9) rfl dX3_letter_1 ?_
  refine lv_aload_n hx hb dX3_letter_4 rfl (lv_at hl 0 rfl) ?_
  refine va_get (D := (dC, dI)) (ci := 3) (v := .int i_start) (C := RX3) (T := TX3) (N := 9) hx hb htg inX3 hown hE.1 hP 0 rfl rfl 4 (by decide) (htg _ tw43) (fun _ h9 => h9) rfl dX3_letter_5 ?_
  refine lv_iload_n hx hb dX3_letter_8 rfl (lv_at hl 1 rfl) ?_
  refine lv_iadd hx hb dX3_letter_9 ?_
  refine gcSN (index := 45) (host := "FamilyChart") S hE (c_X9_at a_i_bytes i_bytes 800 (Nat.le_of_ble_eq_true rfl) (i_start + v1) (pAt 800 i_bytes (i_start + v1)) rfl) mX9_at nw19 ⟨Nat.le_of_ble_eq_true rfl, Nat.le_of_ble_eq_true rfl⟩ hP hD hS hA ⟨Nat.zero_le _, Nat.zero_le _⟩ (wr := [(a_i, .inr (3, [.ref a_i_bytes, .int i_filled, .int i_length, .int i_kind, .int i_start, .int i_stop, .int i_value, .int i_errorCode, .int i_errorStart]))]) [1] [0] rfl rfl rfl rfl (by decide) (As := [.ref a_i_bytes, .int (i_start + v1)]) (rest := []) rfl hl.1 rfl (Nat.le_of_ble_eq_true rfl) dX3_letter_10 (fun H locs hP hD hS => ?_)
  refine W.eq (g2 := F0 m 13 ls [.int (pAt 800 i_bytes (i_start + v1))]) rfl ?_
  have hP : va_P (dC, dI) vwCl [(a_i, .inr (3, [.ref a_i_bytes, .int i_filled, .int i_length, .int i_kind, .int i_start, .int i_stop, .int i_value, .int i_errorCode, .int i_errorStart])), (a_i_bytes, .inl (cI, 800, .inl i_bytes))] H := hP
  have hD : va_D A [(a_i, .inr (3, [.ref a_i_bytes, .int i_filled, .int i_length, .int i_kind, .int i_start, .int i_stop, .int i_value, .int i_errorCode, .int i_errorStart])), (a_i_bytes, .inl (cI, 800, .inl i_bytes))] := hD
  cases hf
  exact g_iret S hr hlocks hP hD hS dX3_letter_13
set_option maxHeartbeats 4000000 in
set_option maxRecDepth 100000 in
theorem c_X3_isWord (a_i a_i_bytes : Nat) (i_filled : Int32) (i_length : Int32) (i_kind : Int32) (i_start : Int32) (i_stop : Int32) (i_value : Int32) (i_errorCode : Int32) (i_errorStart : Int32) (i_bytes : Nat → Int32) (v1 : Nat) (hv1 : v1 < 5) (r9 : Bool) (hf : p3_isWord i_kind i_start i_stop i_bytes v1 = some r9) : gMH l dC dI cI cJ cZ cK adK adV yX3_isWord cX3_isWord 3 (some .boolean) (4) (85) [.ref a_i, .ref (adK v1)] [(a_i, .inr (3, [.ref a_i_bytes, .int i_filled, .int i_length, .int i_kind, .int i_start, .int i_stop, .int i_value, .int i_errorCode, .int i_errorStart])), (a_i_bytes, .inl (cI, 800, .inl i_bytes))] [(a_i, .inr (3, [.ref a_i_bytes, .int i_filled, .int i_length, .int i_kind, .int i_start, .int i_stop, .int i_value, .int i_errorCode, .int i_errorStart])), (a_i_bytes, .inl (cI, 800, .inl i_bytes))] (some (.int (bI r9))) := by
  refine g_startH (own := RX3) (by decide +kernel) rfl (Nat.le_of_ble_eq_true rfl) ?_
  intro p e s m below meth c A ls S hr hlocks hE hG hP hD hS hA hl hin
  have hx := S.1
  have hb := S.2.1
  have hml := S.2.2.1
  have hown := S.2.2.2.1
  have htg : ∀ z ∈ gw, z.before ([.ref a_i, .ref (adK v1)] : List Value).toArray s = true := fun w h => S.2.2.2.2 w (List.mem_cons_of_mem _ h)
  have hl : lv_has ls 3 [(0, .ref a_i), (1, .ref (adK v1))] := hl
  have hS0 := hS
  obtain ⟨H, hH⟩ : ∃ H, H = s.heap := ⟨_, rfl⟩
  obtain ⟨locs, hlc⟩ : ∃ locs : List Loc, locs = [] := ⟨_, rfl⟩
  have hS : va_S A s.heap H locs := by rw [hH, hlc]; exact hS0
  have hP : va_P (dC, dI) vwCl [(a_i, .inr (3, [.ref a_i_bytes, .int i_filled, .int i_length, .int i_kind, .int i_start, .int i_stop, .int i_value, .int i_errorCode, .int i_errorStart])), (a_i_bytes, .inl (cI, 800, .inl i_bytes))] H := by rw [hH]; exact hP
  suffices hgo : W p l e ({ frames := 4, cells := 0, slots := 0, locals := 85 }) s m ([.ref a_i, .ref (adK v1)] : List Value).toArray below meth c H locs 0 0 (MQ below (gQ dC dI (some (.int (bI r9))) A [(a_i, .inr (3, [.ref a_i_bytes, .int i_filled, .int i_length, .int i_kind, .int i_start, .int i_stop, .int i_value, .int i_errorCode, .int i_errorStart])), (a_i_bytes, .inl (cI, 800, .inl i_bytes))]) ([.ref a_i, .ref (adK v1)] : List Value).toArray s 0 0 A) (F0 m 0 ls []) by rw [hH, hlc] at hgo; exact hgo
  rw [p3_isWord] at hf
  have J65 : ∀  (H : Heap) (locs : List Loc) (ls : Array Slot), p3_isWord_J65  = some r9 → va_P (dC, dI) vwCl [(a_i, .inr (3, [.ref a_i_bytes, .int i_filled, .int i_length, .int i_kind, .int i_start, .int i_stop, .int i_value, .int i_errorCode, .int i_errorStart])), (a_i_bytes, .inl (cI, 800, .inl i_bytes))] H → va_D A [(a_i, .inr (3, [.ref a_i_bytes, .int i_filled, .int i_length, .int i_kind, .int i_start, .int i_stop, .int i_value, .int i_errorCode, .int i_errorStart])), (a_i_bytes, .inl (cI, 800, .inl i_bytes))] → va_S A s.heap H locs → lv_has ls 3 [] → W p l e ({ frames := 4, cells := 0, slots := 0, locals := 85 }) s m ([.ref a_i, .ref (adK v1)] : List Value).toArray below meth c H locs 0 0 (MQ below (gQ dC dI (some (.int (bI r9))) A [(a_i, .inr (3, [.ref a_i_bytes, .int i_filled, .int i_length, .int i_kind, .int i_start, .int i_stop, .int i_value, .int i_errorCode, .int i_errorStart])), (a_i_bytes, .inl (cI, 800, .inl i_bytes))]) ([.ref a_i, .ref (adK v1)] : List Value).toArray s 0 0 A) (F0 m 65 ls []) := by
    intro  H locs ls hf hP hD hS hl
    rw [p3_isWord_J65] at hf
    refine lv_iconst (v := 1) hx hb dX3_isWord_65 (by decide) ?_
    cases hf
    exact g_zret S hr (nar_bI true) hlocks hP hD hS dX3_isWord_66
  refine lv_aload_n hx hb dX3_isWord_0 rfl (lv_at hl 0 rfl) ?_
  refine va_get (D := (dC, dI)) (ci := 3) (v := .int i_kind) (C := RX3) (T := TX3) (N := 9) hx hb htg inX3 hown hE.1 hP 0 rfl rfl 3 (by decide) (htg _ tw42) (fun _ h9 => h9) rfl dX3_isWord_1 ?_
  refine lv_iconst (v := 1) hx hb dX3_isWord_4 (by decide) ?_
  refine lv_icmp_ne (tgt := 24) hx hb dX3_isWord_5 (by decide) (fun h9 => ?_) (fun h9 => ?_)
  · have hf := itf h9 hf
    refine lv_iconst (v := 0) hx hb dX3_isWord_24 (by decide) ?_
    cases hf
    exact g_zret S hr (nar_bI false) hlocks hP hD hS dX3_isWord_25
  · have hf := itt h9 hf
    refine lv_aload_n hx hb dX3_isWord_8 rfl (lv_at hl 1 rfl) ?_
    refine gcRH (index := 66) S hE hG (c_J0_length v1 hv1) mJ0_length tw817 ⟨Nat.le_of_ble_eq_true rfl, Nat.le_of_ble_eq_true rfl⟩ hP hD hS hA ⟨Nat.zero_le _, Nat.zero_le _⟩ ((hG.2.2.2.2.1 v1 hv1).recv hS) (wr := [(a_i, .inr (3, [.ref a_i_bytes, .int i_filled, .int i_length, .int i_kind, .int i_start, .int i_stop, .int i_value, .int i_errorCode, .int i_errorStart])), (a_i_bytes, .inl (cI, 800, .inl i_bytes))]) [] [0, 1] rfl rfl rfl (by decide) (by decide) (As := []) (rest := []) rfl hl.1 rfl (Nat.le_of_ble_eq_true rfl) dX3_isWord_9 (fun H locs hP hD hS => ?_)
    refine W.eq (g2 := F0 m 12 ls [.int (Int32.ofNat (txl v1))]) rfl ?_
    rw [List.append_nil] at hP hD
    have hP : va_P (dC, dI) vwCl [(a_i, .inr (3, [.ref a_i_bytes, .int i_filled, .int i_length, .int i_kind, .int i_start, .int i_stop, .int i_value, .int i_errorCode, .int i_errorStart])), (a_i_bytes, .inl (cI, 800, .inl i_bytes))] H := hP
    have hD : va_D A [(a_i, .inr (3, [.ref a_i_bytes, .int i_filled, .int i_length, .int i_kind, .int i_start, .int i_stop, .int i_value, .int i_errorCode, .int i_errorStart])), (a_i_bytes, .inl (cI, 800, .inl i_bytes))] := hD
    refine lv_aload_n hx hb dX3_isWord_12 rfl (lv_at hl 0 rfl) ?_
    refine va_get (D := (dC, dI)) (ci := 3) (v := .int i_stop) (C := RX3) (T := TX3) (N := 9) hx hb htg inX3 hown hE.1 hP 0 rfl rfl 5 (by decide) (htg _ tw44) (fun _ h9 => h9) rfl dX3_isWord_13 ?_
    refine lv_aload_n hx hb dX3_isWord_16 rfl (lv_at hl 0 rfl) ?_
    refine va_get (D := (dC, dI)) (ci := 3) (v := .int i_start) (C := RX3) (T := TX3) (N := 9) hx hb htg inX3 hown hE.1 hP 0 rfl rfl 4 (by decide) (htg _ tw43) (fun _ h9 => h9) rfl dX3_isWord_17 ?_
    refine lv_isub hx hb dX3_isWord_20 ?_
    refine lv_icmp_eq (tgt := 26) hx hb dX3_isWord_21 (by decide) (fun h9 => ?_) (fun h9 => ?_)
    · have hf := itt h9 hf
      refine lv_iconst (v := 0) hx hb dX3_isWord_26 (by decide) ?_
      refine lv_istore_n (lv' := [(2, .int (0 : Int32)), (0, .ref a_i), (1, .ref (adK v1))]) hx hb dX3_isWord_27 rfl hl (by decide) rfl (fun ls hl => ?_)
      have K28 : ∀ (n28 : Nat) (v2_28 : Int32) (ex28 : (Bool) ⊕ (Unit)) (H : Heap) (locs : List Loc) (ls : Array Slot), p3_isWord_L28 i_bytes i_start v1 n28 v2_28 = some ex28 → oc ex28 (fun r_x28 => some r_x28) (fun _ => p3_isWord_J65) = some r9 → va_P (dC, dI) vwCl [(a_i, .inr (3, [.ref a_i_bytes, .int i_filled, .int i_length, .int i_kind, .int i_start, .int i_stop, .int i_value, .int i_errorCode, .int i_errorStart])), (a_i_bytes, .inl (cI, 800, .inl i_bytes))] H → va_D A [(a_i, .inr (3, [.ref a_i_bytes, .int i_filled, .int i_length, .int i_kind, .int i_start, .int i_stop, .int i_value, .int i_errorCode, .int i_errorStart])), (a_i_bytes, .inl (cI, 800, .inl i_bytes))] → va_S A s.heap H locs → lv_has ls 3 [(0, .ref a_i), (1, .ref (adK v1)), (2, .int v2_28)] → W p l e ({ frames := 4, cells := 0, slots := 0, locals := 85 }) s m ([.ref a_i, .ref (adK v1)] : List Value).toArray below meth c H locs 0 0 (MQ below (gQ dC dI (some (.int (bI r9))) A [(a_i, .inr (3, [.ref a_i_bytes, .int i_filled, .int i_length, .int i_kind, .int i_start, .int i_stop, .int i_value, .int i_errorCode, .int i_errorStart])), (a_i_bytes, .inl (cI, 800, .inl i_bytes))]) ([.ref a_i, .ref (adK v1)] : List Value).toArray s 0 0 A) (F0 m 28 ls []) := by
        intro n28
        induction n28 with
        | zero => intro v2_28 ex28 H locs ls hf; rw [p3_isWord_L28] at hf; cases hf
        | succ n28 ih28 =>
          intro v2_28 ex28 H locs ls hf hk28 hP hD hS hl
          rw [p3_isWord_L28, p3_isWord_L28_B] at hf
          refine lv_iload_n hx hb dX3_isWord_28 rfl (lv_at hl 2 rfl) ?_
          refine lv_aload_n hx hb dX3_isWord_29 rfl (lv_at hl 1 rfl) ?_
          refine gcRH (index := 66) S hE hG (c_J0_length v1 hv1) mJ0_length tw817 ⟨Nat.le_of_ble_eq_true rfl, Nat.le_of_ble_eq_true rfl⟩ hP hD hS hA ⟨Nat.zero_le _, Nat.zero_le _⟩ ((hG.2.2.2.2.1 v1 hv1).recv hS) (wr := [(a_i, .inr (3, [.ref a_i_bytes, .int i_filled, .int i_length, .int i_kind, .int i_start, .int i_stop, .int i_value, .int i_errorCode, .int i_errorStart])), (a_i_bytes, .inl (cI, 800, .inl i_bytes))]) [] [0, 1] rfl rfl rfl (by decide) (by decide) (As := []) (rest := [.int v2_28]) rfl hl.1 rfl (Nat.le_of_ble_eq_true rfl) dX3_isWord_30 (fun H locs hP hD hS => ?_)
          refine W.eq (g2 := F0 m 33 ls [.int (Int32.ofNat (txl v1)), .int v2_28]) rfl ?_
          rw [List.append_nil] at hP hD
          have hP : va_P (dC, dI) vwCl [(a_i, .inr (3, [.ref a_i_bytes, .int i_filled, .int i_length, .int i_kind, .int i_start, .int i_stop, .int i_value, .int i_errorCode, .int i_errorStart])), (a_i_bytes, .inl (cI, 800, .inl i_bytes))] H := hP
          have hD : va_D A [(a_i, .inr (3, [.ref a_i_bytes, .int i_filled, .int i_length, .int i_kind, .int i_start, .int i_stop, .int i_value, .int i_errorCode, .int i_errorStart])), (a_i_bytes, .inl (cI, 800, .inl i_bytes))] := hD
          refine lv_icmp_ge (tgt := 65) hx hb dX3_isWord_33 (by decide) (fun h9 => ?_) (fun h9 => ?_)
          · have hf := itt h9 hf
            cases hf
            have hf := hk28
            dsimp only [oc] at hf
            exact J65 H locs ls hf hP hD hS (lv_sub hl [] rfl)
          · have hf := itf h9 hf
            refine lv_aload_n hx hb dX3_isWord_36 rfl (lv_at hl 1 rfl) ?_
            refine lv_iload_n hx hb dX3_isWord_37 rfl (lv_at hl 2 rfl) ?_
            obtain ⟨h9, hf⟩ := gd_s hf
            refine gcRH (index := 71) S hE hG (c_J0_charAt v1 hv1 v2_28 (fun q => h9 (Or.inl q)) (Nat.lt_of_not_le fun q => h9 (Or.inr q))) mJ0_charAt tw818 ⟨Nat.le_of_ble_eq_true rfl, Nat.le_of_ble_eq_true rfl⟩ hP hD hS hA ⟨Nat.zero_le _, Nat.zero_le _⟩ ((hG.2.2.2.2.1 v1 hv1).recv hS) (wr := [(a_i, .inr (3, [.ref a_i_bytes, .int i_filled, .int i_length, .int i_kind, .int i_start, .int i_stop, .int i_value, .int i_errorCode, .int i_errorStart])), (a_i_bytes, .inl (cI, 800, .inl i_bytes))]) [] [0, 1] rfl rfl rfl (by decide) (by decide) (As := [.int v2_28]) (rest := []) rfl hl.1 rfl (Nat.le_of_ble_eq_true rfl) dX3_isWord_38 (fun H locs hP hD hS => ?_)
            refine W.eq (g2 := F0 m 41 ls [.int (chv v1 v2_28.toNatClampNeg)]) rfl ?_
            rw [List.append_nil] at hP hD
            have hP : va_P (dC, dI) vwCl [(a_i, .inr (3, [.ref a_i_bytes, .int i_filled, .int i_length, .int i_kind, .int i_start, .int i_stop, .int i_value, .int i_errorCode, .int i_errorStart])), (a_i_bytes, .inl (cI, 800, .inl i_bytes))] H := hP
            have hD : va_D A [(a_i, .inr (3, [.ref a_i_bytes, .int i_filled, .int i_length, .int i_kind, .int i_start, .int i_stop, .int i_value, .int i_errorCode, .int i_errorStart])), (a_i_bytes, .inl (cI, 800, .inl i_bytes))] := hD
            refine lv_aload_n hx hb dX3_isWord_41 rfl (lv_at hl 0 rfl) ?_
            refine va_get (D := (dC, dI)) (ci := 3) (v := .ref a_i_bytes) (C := RX3) (T := TX3) (N := 9) hx hb htg inX3 hown hE.1 hP 0 rfl rfl 0 (by decide) (htg _ tw37) (fun _ h9 => h9) rfl dX3_isWord_42 ?_
            refine lv_aload_n hx hb dX3_isWord_45 rfl (lv_at hl 0 rfl) ?_
            refine va_get (D := (dC, dI)) (ci := 3) (v := .int i_start) (C := RX3) (T := TX3) (N := 9) hx hb htg inX3 hown hE.1 hP 0 rfl rfl 4 (by decide) (htg _ tw43) (fun _ h9 => h9) rfl dX3_isWord_46 ?_
            refine lv_iload_n hx hb dX3_isWord_49 rfl (lv_at hl 2 rfl) ?_
            refine lv_iadd hx hb dX3_isWord_50 ?_
            refine gcSN (index := 45) (host := "FamilyChart") S hE (c_X9_at a_i_bytes i_bytes 800 (Nat.le_of_ble_eq_true rfl) (i_start + v2_28) (pAt 800 i_bytes (i_start + v2_28)) rfl) mX9_at nw19 ⟨Nat.le_of_ble_eq_true rfl, Nat.le_of_ble_eq_true rfl⟩ hP hD hS hA ⟨Nat.zero_le _, Nat.zero_le _⟩ (wr := [(a_i, .inr (3, [.ref a_i_bytes, .int i_filled, .int i_length, .int i_kind, .int i_start, .int i_stop, .int i_value, .int i_errorCode, .int i_errorStart]))]) [1] [0] rfl rfl rfl rfl (by decide) (As := [.ref a_i_bytes, .int (i_start + v2_28)]) (rest := [.int (chv v1 v2_28.toNatClampNeg)]) rfl hl.1 rfl (Nat.le_of_ble_eq_true rfl) dX3_isWord_51 (fun H locs hP hD hS => ?_)
            refine W.eq (g2 := F0 m 54 ls [.int (pAt 800 i_bytes (i_start + v2_28)), .int (chv v1 v2_28.toNatClampNeg)]) rfl ?_
            have hP : va_P (dC, dI) vwCl [(a_i, .inr (3, [.ref a_i_bytes, .int i_filled, .int i_length, .int i_kind, .int i_start, .int i_stop, .int i_value, .int i_errorCode, .int i_errorStart])), (a_i_bytes, .inl (cI, 800, .inl i_bytes))] H := hP
            have hD : va_D A [(a_i, .inr (3, [.ref a_i_bytes, .int i_filled, .int i_length, .int i_kind, .int i_start, .int i_stop, .int i_value, .int i_errorCode, .int i_errorStart])), (a_i_bytes, .inl (cI, 800, .inl i_bytes))] := hD
            refine lv_icmp_eq (tgt := 59) hx hb dX3_isWord_54 (by decide) (fun h9 => ?_) (fun h9 => ?_)
            · have hf := itt h9 hf
              obtain ⟨t59, h9⟩ : ∃ z : Int32, z = (v2_28 + (1 : Int32)) := ⟨_, rfl⟩
              have hf := lb_e h9 hf
              refine lv_iinc (v := t59) (lv' := [(2, .int t59), (0, .ref a_i), (1, .ref (adK v1))]) hx hb dX3_isWord_59 hl (k := 2) rfl (by rw [h9]; rfl) (by decide) rfl (fun ls hl => ?_)
              refine lv_goto (tgt := 28) hx hb dX3_isWord_62 (by decide) ?_
              exact ih28 t59 ex28 H locs ls hf hk28 hP hD hS (lv_sub hl [1, 2, 0] rfl)
            · have hf := itf h9 hf
              refine lv_iconst (v := 0) hx hb dX3_isWord_57 (by decide) ?_
              cases hf
              have hf := hk28
              dsimp only [oc] at hf
              cases hf
              exact g_zret S hr (nar_bI false) hlocks hP hD hS dX3_isWord_58
      obtain ⟨ex, h9, hf⟩ := os_s hf
      exact K28 FU (0 : Int32) ex H locs ls h9 hf hP hD hS (lv_sub hl [1, 2, 0] rfl)
    · have hf := itf h9 hf
      refine lv_iconst (v := 0) hx hb dX3_isWord_24 (by decide) ?_
      cases hf
      exact g_zret S hr (nar_bI false) hlocks hP hD hS dX3_isWord_25
set_option maxHeartbeats 4000000 in
set_option maxRecDepth 100000 in
theorem c_X3_isSpelled (a_i a_i_bytes a_p1 : Nat) (i_filled : Int32) (i_length : Int32) (i_kind : Int32) (i_start : Int32) (i_stop : Int32) (i_value : Int32) (i_errorCode : Int32) (i_errorStart : Int32) (i_bytes : Nat → Int32) (p1 : Nat → Int32) (n_p1 : Nat) (hn_p1 : n_p1 < 2147483648) (v2 : Int32) (v3 : Int32) (r9 : Bool) (hf : p3_isSpelled n_p1 i_kind i_start i_stop i_bytes p1 v2 v3 = some r9) : gM l dC dI cI cJ cZ cK yX3_isSpelled cX3_isSpelled 5 (some .boolean) (1) (21) [.ref a_i, .ref a_p1, .int v2, .int v3] [(a_i, .inr (3, [.ref a_i_bytes, .int i_filled, .int i_length, .int i_kind, .int i_start, .int i_stop, .int i_value, .int i_errorCode, .int i_errorStart])), (a_i_bytes, .inl (cI, 800, .inl i_bytes)), (a_p1, .inl (cI, n_p1, .inl p1))] [(a_i, .inr (3, [.ref a_i_bytes, .int i_filled, .int i_length, .int i_kind, .int i_start, .int i_stop, .int i_value, .int i_errorCode, .int i_errorStart])), (a_i_bytes, .inl (cI, 800, .inl i_bytes)), (a_p1, .inl (cI, n_p1, .inl p1))] (some (.int (bI r9))) := by
  refine g_start (own := RX3) (by decide +kernel) rfl (Nat.le_of_ble_eq_true rfl) ?_
  intro p e s m below meth c A ls S hr hlocks hE hP hD hS hA hl hin
  have hx := S.1
  have hb := S.2.1
  have hml := S.2.2.1
  have hown := S.2.2.2.1
  have htg : ∀ z ∈ gw, z.before ([.ref a_i, .ref a_p1, .int v2, .int v3] : List Value).toArray s = true := fun w h => S.2.2.2.2 w (List.mem_cons_of_mem _ h)
  have hl : lv_has ls 5 [(0, .ref a_i), (1, .ref a_p1), (2, .int v2), (3, .int v3)] := hl
  have hS0 := hS
  obtain ⟨H, hH⟩ : ∃ H, H = s.heap := ⟨_, rfl⟩
  obtain ⟨locs, hlc⟩ : ∃ locs : List Loc, locs = [] := ⟨_, rfl⟩
  have hS : va_S A s.heap H locs := by rw [hH, hlc]; exact hS0
  have hP : va_P (dC, dI) vwCl [(a_i, .inr (3, [.ref a_i_bytes, .int i_filled, .int i_length, .int i_kind, .int i_start, .int i_stop, .int i_value, .int i_errorCode, .int i_errorStart])), (a_i_bytes, .inl (cI, 800, .inl i_bytes)), (a_p1, .inl (cI, n_p1, .inl p1))] H := by rw [hH]; exact hP
  suffices hgo : W p l e ({ frames := 1, cells := 0, slots := 0, locals := 21 }) s m ([.ref a_i, .ref a_p1, .int v2, .int v3] : List Value).toArray below meth c H locs 0 0 (MQ below (gQ dC dI (some (.int (bI r9))) A [(a_i, .inr (3, [.ref a_i_bytes, .int i_filled, .int i_length, .int i_kind, .int i_start, .int i_stop, .int i_value, .int i_errorCode, .int i_errorStart])), (a_i_bytes, .inl (cI, 800, .inl i_bytes)), (a_p1, .inl (cI, n_p1, .inl p1))]) ([.ref a_i, .ref a_p1, .int v2, .int v3] : List Value).toArray s 0 0 A) (F0 m 0 ls []) by rw [hH, hlc] at hgo; exact hgo
  rw [p3_isSpelled] at hf
  have J65 : ∀  (H : Heap) (locs : List Loc) (ls : Array Slot), p3_isSpelled_J65  = some r9 → va_P (dC, dI) vwCl [(a_i, .inr (3, [.ref a_i_bytes, .int i_filled, .int i_length, .int i_kind, .int i_start, .int i_stop, .int i_value, .int i_errorCode, .int i_errorStart])), (a_i_bytes, .inl (cI, 800, .inl i_bytes)), (a_p1, .inl (cI, n_p1, .inl p1))] H → va_D A [(a_i, .inr (3, [.ref a_i_bytes, .int i_filled, .int i_length, .int i_kind, .int i_start, .int i_stop, .int i_value, .int i_errorCode, .int i_errorStart])), (a_i_bytes, .inl (cI, 800, .inl i_bytes)), (a_p1, .inl (cI, n_p1, .inl p1))] → va_S A s.heap H locs → lv_has ls 5 [] → W p l e ({ frames := 1, cells := 0, slots := 0, locals := 21 }) s m ([.ref a_i, .ref a_p1, .int v2, .int v3] : List Value).toArray below meth c H locs 0 0 (MQ below (gQ dC dI (some (.int (bI r9))) A [(a_i, .inr (3, [.ref a_i_bytes, .int i_filled, .int i_length, .int i_kind, .int i_start, .int i_stop, .int i_value, .int i_errorCode, .int i_errorStart])), (a_i_bytes, .inl (cI, 800, .inl i_bytes)), (a_p1, .inl (cI, n_p1, .inl p1))]) ([.ref a_i, .ref a_p1, .int v2, .int v3] : List Value).toArray s 0 0 A) (F0 m 65 ls []) := by
    intro  H locs ls hf hP hD hS hl
    rw [p3_isSpelled_J65] at hf
    refine lv_iconst (v := 1) hx hb dX3_isSpelled_65 (by decide) ?_
    cases hf
    exact g_zret S hr (nar_bI true) hlocks hP hD hS dX3_isSpelled_66
  refine lv_aload_n hx hb dX3_isSpelled_0 rfl (lv_at hl 0 rfl) ?_
  refine va_get (D := (dC, dI)) (ci := 3) (v := .int i_kind) (C := RX3) (T := TX3) (N := 9) hx hb htg inX3 hown hE.1 hP 0 rfl rfl 3 (by decide) (htg _ tw42) (fun _ h9 => h9) rfl dX3_isSpelled_1 ?_
  refine lv_iconst (v := 1) hx hb dX3_isSpelled_4 (by decide) ?_
  refine lv_icmp_ne (tgt := 21) hx hb dX3_isSpelled_5 (by decide) (fun h9 => ?_) (fun h9 => ?_)
  · have hf := itf h9 hf
    refine lv_iconst (v := 0) hx hb dX3_isSpelled_21 (by decide) ?_
    cases hf
    exact g_zret S hr (nar_bI false) hlocks hP hD hS dX3_isSpelled_22
  · have hf := itt h9 hf
    refine lv_iload_n hx hb dX3_isSpelled_8 rfl (lv_at hl 3 rfl) ?_
    refine lv_aload_n hx hb dX3_isSpelled_9 rfl (lv_at hl 0 rfl) ?_
    refine va_get (D := (dC, dI)) (ci := 3) (v := .int i_stop) (C := RX3) (T := TX3) (N := 9) hx hb htg inX3 hown hE.1 hP 0 rfl rfl 5 (by decide) (htg _ tw44) (fun _ h9 => h9) rfl dX3_isSpelled_10 ?_
    refine lv_aload_n hx hb dX3_isSpelled_13 rfl (lv_at hl 0 rfl) ?_
    refine va_get (D := (dC, dI)) (ci := 3) (v := .int i_start) (C := RX3) (T := TX3) (N := 9) hx hb htg inX3 hown hE.1 hP 0 rfl rfl 4 (by decide) (htg _ tw43) (fun _ h9 => h9) rfl dX3_isSpelled_14 ?_
    refine lv_isub hx hb dX3_isSpelled_17 ?_
    refine lv_icmp_eq (tgt := 23) hx hb dX3_isSpelled_18 (by decide) (fun h9 => ?_) (fun h9 => ?_)
    · have hf := itt h9 hf
      refine lv_iconst (v := 0) hx hb dX3_isSpelled_23 (by decide) ?_
      refine lv_istore (lv' := [(4, .int (0 : Int32)), (0, .ref a_i), (1, .ref a_p1), (2, .int v2), (3, .int v3)]) hx hb dX3_isSpelled_24 hl (by decide) rfl (fun ls hl => ?_)
      have K26 : ∀ (n26 : Nat) (v4_26 : Int32) (ex26 : (Bool) ⊕ (Unit)) (H : Heap) (locs : List Loc) (ls : Array Slot), p3_isSpelled_L26 i_bytes i_start n_p1 p1 v2 v3 n26 v4_26 = some ex26 → oc ex26 (fun r_x26 => some r_x26) (fun _ => p3_isSpelled_J65) = some r9 → va_P (dC, dI) vwCl [(a_i, .inr (3, [.ref a_i_bytes, .int i_filled, .int i_length, .int i_kind, .int i_start, .int i_stop, .int i_value, .int i_errorCode, .int i_errorStart])), (a_i_bytes, .inl (cI, 800, .inl i_bytes)), (a_p1, .inl (cI, n_p1, .inl p1))] H → va_D A [(a_i, .inr (3, [.ref a_i_bytes, .int i_filled, .int i_length, .int i_kind, .int i_start, .int i_stop, .int i_value, .int i_errorCode, .int i_errorStart])), (a_i_bytes, .inl (cI, 800, .inl i_bytes)), (a_p1, .inl (cI, n_p1, .inl p1))] → va_S A s.heap H locs → lv_has ls 5 [(0, .ref a_i), (1, .ref a_p1), (2, .int v2), (3, .int v3), (4, .int v4_26)] → W p l e ({ frames := 1, cells := 0, slots := 0, locals := 21 }) s m ([.ref a_i, .ref a_p1, .int v2, .int v3] : List Value).toArray below meth c H locs 0 0 (MQ below (gQ dC dI (some (.int (bI r9))) A [(a_i, .inr (3, [.ref a_i_bytes, .int i_filled, .int i_length, .int i_kind, .int i_start, .int i_stop, .int i_value, .int i_errorCode, .int i_errorStart])), (a_i_bytes, .inl (cI, 800, .inl i_bytes)), (a_p1, .inl (cI, n_p1, .inl p1))]) ([.ref a_i, .ref a_p1, .int v2, .int v3] : List Value).toArray s 0 0 A) (F0 m 26 ls []) := by
        intro n26
        induction n26 with
        | zero => intro v4_26 ex26 H locs ls hf; rw [p3_isSpelled_L26] at hf; cases hf
        | succ n26 ih26 =>
          intro v4_26 ex26 H locs ls hf hk26 hP hD hS hl
          rw [p3_isSpelled_L26, p3_isSpelled_L26_B] at hf
          refine lv_iload hx hb dX3_isSpelled_26 (lv_at hl 4 rfl) ?_
          refine lv_iload_n hx hb dX3_isSpelled_28 rfl (lv_at hl 3 rfl) ?_
          refine lv_icmp_ge (tgt := 65) hx hb dX3_isSpelled_29 (by decide) (fun h9 => ?_) (fun h9 => ?_)
          · have hf := itt h9 hf
            cases hf
            have hf := hk26
            dsimp only [oc] at hf
            exact J65 H locs ls hf hP hD hS (lv_sub hl [] rfl)
          · have hf := itf h9 hf
            refine lv_aload_n hx hb dX3_isSpelled_32 rfl (lv_at hl 1 rfl) ?_
            refine lv_iload_n hx hb dX3_isSpelled_33 rfl (lv_at hl 2 rfl) ?_
            refine lv_iload hx hb dX3_isSpelled_34 (lv_at hl 4 rfl) ?_
            refine lv_iadd hx hb dX3_isSpelled_36 ?_
            refine gcSN (index := 45) (host := "FamilyChart") S hE (c_X9_at a_p1 p1 n_p1 hn_p1 (v2 + v4_26) (pAt n_p1 p1 (v2 + v4_26)) rfl) mX9_at nw19 ⟨Nat.le_of_ble_eq_true rfl, Nat.le_of_ble_eq_true rfl⟩ hP hD hS hA ⟨Nat.zero_le _, Nat.zero_le _⟩ (wr := [(a_i, .inr (3, [.ref a_i_bytes, .int i_filled, .int i_length, .int i_kind, .int i_start, .int i_stop, .int i_value, .int i_errorCode, .int i_errorStart])), (a_i_bytes, .inl (cI, 800, .inl i_bytes))]) [2] [0, 1] rfl rfl rfl rfl (by decide) (As := [.ref a_p1, .int (v2 + v4_26)]) (rest := []) rfl hl.1 rfl (Nat.le_of_ble_eq_true rfl) dX3_isSpelled_37 (fun H locs hP hD hS => ?_)
            refine W.eq (g2 := F0 m 40 ls [.int (pAt n_p1 p1 (v2 + v4_26))]) rfl ?_
            have hP : va_P (dC, dI) vwCl [(a_i, .inr (3, [.ref a_i_bytes, .int i_filled, .int i_length, .int i_kind, .int i_start, .int i_stop, .int i_value, .int i_errorCode, .int i_errorStart])), (a_i_bytes, .inl (cI, 800, .inl i_bytes)), (a_p1, .inl (cI, n_p1, .inl p1))] H := hP
            have hD : va_D A [(a_i, .inr (3, [.ref a_i_bytes, .int i_filled, .int i_length, .int i_kind, .int i_start, .int i_stop, .int i_value, .int i_errorCode, .int i_errorStart])), (a_i_bytes, .inl (cI, 800, .inl i_bytes)), (a_p1, .inl (cI, n_p1, .inl p1))] := hD
            refine lv_aload_n hx hb dX3_isSpelled_40 rfl (lv_at hl 0 rfl) ?_
            refine va_get (D := (dC, dI)) (ci := 3) (v := .ref a_i_bytes) (C := RX3) (T := TX3) (N := 9) hx hb htg inX3 hown hE.1 hP 0 rfl rfl 0 (by decide) (htg _ tw37) (fun _ h9 => h9) rfl dX3_isSpelled_41 ?_
            refine lv_aload_n hx hb dX3_isSpelled_44 rfl (lv_at hl 0 rfl) ?_
            refine va_get (D := (dC, dI)) (ci := 3) (v := .int i_start) (C := RX3) (T := TX3) (N := 9) hx hb htg inX3 hown hE.1 hP 0 rfl rfl 4 (by decide) (htg _ tw43) (fun _ h9 => h9) rfl dX3_isSpelled_45 ?_
            refine lv_iload hx hb dX3_isSpelled_48 (lv_at hl 4 rfl) ?_
            refine lv_iadd hx hb dX3_isSpelled_50 ?_
            refine gcSN (index := 45) (host := "FamilyChart") S hE (c_X9_at a_i_bytes i_bytes 800 (Nat.le_of_ble_eq_true rfl) (i_start + v4_26) (pAt 800 i_bytes (i_start + v4_26)) rfl) mX9_at nw19 ⟨Nat.le_of_ble_eq_true rfl, Nat.le_of_ble_eq_true rfl⟩ hP hD hS hA ⟨Nat.zero_le _, Nat.zero_le _⟩ (wr := [(a_i, .inr (3, [.ref a_i_bytes, .int i_filled, .int i_length, .int i_kind, .int i_start, .int i_stop, .int i_value, .int i_errorCode, .int i_errorStart])), (a_p1, .inl (cI, n_p1, .inl p1))]) [1] [0, 2] rfl rfl rfl rfl (by decide) (As := [.ref a_i_bytes, .int (i_start + v4_26)]) (rest := [.int (pAt n_p1 p1 (v2 + v4_26))]) rfl hl.1 rfl (Nat.le_of_ble_eq_true rfl) dX3_isSpelled_51 (fun H locs hP hD hS => ?_)
            refine W.eq (g2 := F0 m 54 ls [.int (pAt 800 i_bytes (i_start + v4_26)), .int (pAt n_p1 p1 (v2 + v4_26))]) rfl ?_
            have hP : va_P (dC, dI) vwCl [(a_i, .inr (3, [.ref a_i_bytes, .int i_filled, .int i_length, .int i_kind, .int i_start, .int i_stop, .int i_value, .int i_errorCode, .int i_errorStart])), (a_p1, .inl (cI, n_p1, .inl p1)), (a_i_bytes, .inl (cI, 800, .inl i_bytes))] H := hP
            have hD : va_D A [(a_i, .inr (3, [.ref a_i_bytes, .int i_filled, .int i_length, .int i_kind, .int i_start, .int i_stop, .int i_value, .int i_errorCode, .int i_errorStart])), (a_p1, .inl (cI, n_p1, .inl p1)), (a_i_bytes, .inl (cI, 800, .inl i_bytes))] := hD
            refine lv_icmp_eq (tgt := 59) hx hb dX3_isSpelled_54 (by decide) (fun h9 => ?_) (fun h9 => ?_)
            · have hf := itt h9 hf
              obtain ⟨t59, h9⟩ : ∃ z : Int32, z = (v4_26 + (1 : Int32)) := ⟨_, rfl⟩
              have hf := lb_e h9 hf
              refine lv_iinc (v := t59) (lv' := [(4, .int t59), (0, .ref a_i), (1, .ref a_p1), (2, .int v2), (3, .int v3)]) hx hb dX3_isSpelled_59 hl (k := 4) rfl (by rw [h9]; rfl) (by decide) rfl (fun ls hl => ?_)
              refine lv_goto (tgt := 26) hx hb dX3_isSpelled_62 (by decide) ?_
              exact ih26 t59 ex26 H locs ls hf hk26 (hP.sub [0, 2, 1] rfl) (hD.sub [0, 2, 1] (by decide) rfl) hS (lv_sub hl [1, 2, 3, 4, 0] rfl)
            · have hf := itf h9 hf
              refine lv_iconst (v := 0) hx hb dX3_isSpelled_57 (by decide) ?_
              cases hf
              have hf := hk26
              dsimp only [oc] at hf
              cases hf
              exact g_zret S hr (nar_bI false) hlocks (hP.sub [0, 2, 1] rfl) (hD.sub [0, 2, 1] (by decide) rfl) hS dX3_isSpelled_58
      obtain ⟨ex, h9, hf⟩ := os_s hf
      exact K26 FU (0 : Int32) ex H locs ls h9 hf hP hD hS (lv_sub hl [1, 2, 3, 4, 0] rfl)
    · have hf := itf h9 hf
      refine lv_iconst (v := 0) hx hb dX3_isSpelled_21 (by decide) ?_
      cases hf
      exact g_zret S hr (nar_bI false) hlocks hP hD hS dX3_isSpelled_22
set_option maxHeartbeats 4000000 in
set_option maxRecDepth 100000 in
theorem c_X3_isSign (a_i a_i_bytes : Nat) (i_filled : Int32) (i_length : Int32) (i_kind : Int32) (i_start : Int32) (i_stop : Int32) (i_value : Int32) (i_errorCode : Int32) (i_errorStart : Int32) (v1 : Int32) (r9 : Bool) (hf : p3_isSign i_kind i_value v1 = r9) : gM l dC dI cI cJ cZ cK yX3_isSign cX3_isSign 2 (some .boolean) (0) (0) [.ref a_i, .int v1] [(a_i, .inr (3, [.ref a_i_bytes, .int i_filled, .int i_length, .int i_kind, .int i_start, .int i_stop, .int i_value, .int i_errorCode, .int i_errorStart]))] [(a_i, .inr (3, [.ref a_i_bytes, .int i_filled, .int i_length, .int i_kind, .int i_start, .int i_stop, .int i_value, .int i_errorCode, .int i_errorStart]))] (some (.int (bI r9))) := by
  refine g_start (own := RX3) (by decide +kernel) rfl (Nat.le_of_ble_eq_true rfl) ?_
  intro p e s m below meth c A ls S hr hlocks hE hP hD hS hA hl hin
  have hx := S.1
  have hb := S.2.1
  have hml := S.2.2.1
  have hown := S.2.2.2.1
  have htg : ∀ z ∈ gw, z.before ([.ref a_i, .int v1] : List Value).toArray s = true := fun w h => S.2.2.2.2 w (List.mem_cons_of_mem _ h)
  have hl : lv_has ls 2 [(0, .ref a_i), (1, .int v1)] := hl
  have hS0 := hS
  obtain ⟨H, hH⟩ : ∃ H, H = s.heap := ⟨_, rfl⟩
  obtain ⟨locs, hlc⟩ : ∃ locs : List Loc, locs = [] := ⟨_, rfl⟩
  have hS : va_S A s.heap H locs := by rw [hH, hlc]; exact hS0
  have hP : va_P (dC, dI) vwCl [(a_i, .inr (3, [.ref a_i_bytes, .int i_filled, .int i_length, .int i_kind, .int i_start, .int i_stop, .int i_value, .int i_errorCode, .int i_errorStart]))] H := by rw [hH]; exact hP
  suffices hgo : W p l e ({ frames := 0, cells := 0, slots := 0, locals := 0 }) s m ([.ref a_i, .int v1] : List Value).toArray below meth c H locs 0 0 (MQ below (gQ dC dI (some (.int (bI r9))) A [(a_i, .inr (3, [.ref a_i_bytes, .int i_filled, .int i_length, .int i_kind, .int i_start, .int i_stop, .int i_value, .int i_errorCode, .int i_errorStart]))]) ([.ref a_i, .int v1] : List Value).toArray s 0 0 A) (F0 m 0 ls []) by rw [hH, hlc] at hgo; exact hgo
  rw [p3_isSign] at hf
  refine lv_aload_n hx hb dX3_isSign_0 rfl (lv_at hl 0 rfl) ?_
  refine va_get (D := (dC, dI)) (ci := 3) (v := .int i_kind) (C := RX3) (T := TX3) (N := 9) hx hb htg inX3 hown hE.1 hP 0 rfl rfl 3 (by decide) (htg _ tw42) (fun _ h9 => h9) rfl dX3_isSign_1 ?_
  refine lv_iconst (v := 3) hx hb dX3_isSign_4 (by decide) ?_
  refine lv_icmp_ne (tgt := 20) hx hb dX3_isSign_5 (by decide) (fun h9 => ?_) (fun h9 => ?_)
  · have hf := itf h9 hf
    refine lv_iconst (v := 0) hx hb dX3_isSign_20 (by decide) ?_
    cases hf
    exact g_zret S hr (nar_bI false) hlocks hP hD hS dX3_isSign_21
  · have hf := itt h9 hf
    refine lv_aload_n hx hb dX3_isSign_8 rfl (lv_at hl 0 rfl) ?_
    refine va_get (D := (dC, dI)) (ci := 3) (v := .int i_value) (C := RX3) (T := TX3) (N := 9) hx hb htg inX3 hown hE.1 hP 0 rfl rfl 6 (by decide) (htg _ tw45) (fun _ h9 => h9) rfl dX3_isSign_9 ?_
    refine lv_iload_n hx hb dX3_isSign_12 rfl (lv_at hl 1 rfl) ?_
    refine lv_icmp_ne (tgt := 20) hx hb dX3_isSign_13 (by decide) (fun h9 => ?_) (fun h9 => ?_)
    · have hf := itf h9 hf
      refine lv_iconst (v := 0) hx hb dX3_isSign_20 (by decide) ?_
      cases hf
      exact g_zret S hr (nar_bI false) hlocks hP hD hS dX3_isSign_21
    · have hf := itt h9 hf
      refine lv_iconst (v := 1) hx hb dX3_isSign_16 (by decide) ?_
      refine lv_goto (tgt := 21) hx hb dX3_isSign_17 (by decide) ?_
      cases hf
      exact g_zret S hr (nar_bI true) hlocks hP hD hS dX3_isSign_21
set_option maxHeartbeats 4000000 in
set_option maxRecDepth 100000 in
theorem c_X3_advance (a_i a_i_bytes : Nat) (i_filled : Int32) (i_length : Int32) (i_kind : Int32) (i_start : Int32) (i_stop : Int32) (i_value : Int32) (i_errorCode : Int32) (i_errorStart : Int32) (i_bytes : Nat → Int32) (i_kind_9 : Int32) (i_start_9 : Int32) (i_stop_9 : Int32) (i_value_9 : Int32) (hf : p3_advance i_length i_kind i_start i_stop i_value i_errorCode i_bytes = some (i_kind_9, i_start_9, i_stop_9, i_value_9)) : gM l dC dI cI cJ cZ cK yX3_advance cX3_advance 1 none (1) (21) [.ref a_i] [(a_i, .inr (3, [.ref a_i_bytes, .int i_filled, .int i_length, .int i_kind, .int i_start, .int i_stop, .int i_value, .int i_errorCode, .int i_errorStart])), (a_i_bytes, .inl (cI, 800, .inl i_bytes))] [(a_i, .inr (3, [.ref a_i_bytes, .int i_filled, .int i_length, .int i_kind_9, .int i_start_9, .int i_stop_9, .int i_value_9, .int i_errorCode, .int i_errorStart])), (a_i_bytes, .inl (cI, 800, .inl i_bytes))] none := by
  refine g_start (own := RX3) (by decide +kernel) rfl (Nat.le_of_ble_eq_true rfl) ?_
  intro p e s m below meth c A ls S hr hlocks hE hP hD hS hA hl hin
  have hx := S.1
  have hb := S.2.1
  have hml := S.2.2.1
  have hown := S.2.2.2.1
  have htg : ∀ z ∈ gw, z.before ([.ref a_i] : List Value).toArray s = true := fun w h => S.2.2.2.2 w (List.mem_cons_of_mem _ h)
  have hl : lv_has ls 1 [(0, .ref a_i)] := hl
  have hS0 := hS
  obtain ⟨H, hH⟩ : ∃ H, H = s.heap := ⟨_, rfl⟩
  obtain ⟨locs, hlc⟩ : ∃ locs : List Loc, locs = [] := ⟨_, rfl⟩
  have hS : va_S A s.heap H locs := by rw [hH, hlc]; exact hS0
  have hP : va_P (dC, dI) vwCl [(a_i, .inr (3, [.ref a_i_bytes, .int i_filled, .int i_length, .int i_kind, .int i_start, .int i_stop, .int i_value, .int i_errorCode, .int i_errorStart])), (a_i_bytes, .inl (cI, 800, .inl i_bytes))] H := by rw [hH]; exact hP
  suffices hgo : W p l e ({ frames := 1, cells := 0, slots := 0, locals := 21 }) s m ([.ref a_i] : List Value).toArray below meth c H locs 0 0 (MQ below (gQ dC dI none A [(a_i, .inr (3, [.ref a_i_bytes, .int i_filled, .int i_length, .int i_kind_9, .int i_start_9, .int i_stop_9, .int i_value_9, .int i_errorCode, .int i_errorStart])), (a_i_bytes, .inl (cI, 800, .inl i_bytes))]) ([.ref a_i] : List Value).toArray s 0 0 A) (F0 m 0 ls []) by rw [hH, hlc] at hgo; exact hgo
  rw [p3_advance] at hf
  have J241 : ∀ (i_kind_241 : Int32) (i_start_241 : Int32) (i_stop_241 : Int32) (i_value_241 : Int32) (H : Heap) (locs : List Loc) (ls : Array Slot), p3_advance_J241 i_kind_241 i_start_241 i_stop_241 i_value_241 = some (i_kind_9, i_start_9, i_stop_9, i_value_9) → va_P (dC, dI) vwCl [(a_i, .inr (3, [.ref a_i_bytes, .int i_filled, .int i_length, .int i_kind_241, .int i_start_241, .int i_stop_241, .int i_value_241, .int i_errorCode, .int i_errorStart])), (a_i_bytes, .inl (cI, 800, .inl i_bytes))] H → va_D A [(a_i, .inr (3, [.ref a_i_bytes, .int i_filled, .int i_length, .int i_kind_241, .int i_start_241, .int i_stop_241, .int i_value_241, .int i_errorCode, .int i_errorStart])), (a_i_bytes, .inl (cI, 800, .inl i_bytes))] → va_S A s.heap H locs → lv_has ls 1 [] → W p l e ({ frames := 1, cells := 0, slots := 0, locals := 21 }) s m ([.ref a_i] : List Value).toArray below meth c H locs 0 0 (MQ below (gQ dC dI none A [(a_i, .inr (3, [.ref a_i_bytes, .int i_filled, .int i_length, .int i_kind_9, .int i_start_9, .int i_stop_9, .int i_value_9, .int i_errorCode, .int i_errorStart])), (a_i_bytes, .inl (cI, 800, .inl i_bytes))]) ([.ref a_i] : List Value).toArray s 0 0 A) (F0 m 241 ls []) := by
    intro i_kind_241 i_start_241 i_stop_241 i_value_241 H locs ls hf hP hD hS hl
    rw [p3_advance_J241] at hf
    cases hf
    exact g_vret S hr hlocks hP hD hS dX3_advance_241
  have J137 : ∀ (i_kind_137 : Int32) (i_start_137 : Int32) (i_stop_137 : Int32) (i_value_137 : Int32) (H : Heap) (locs : List Loc) (ls : Array Slot), p3_advance_J137 i_bytes i_length i_kind_137 i_start_137 i_stop_137 i_value_137 = some (i_kind_9, i_start_9, i_stop_9, i_value_9) → va_P (dC, dI) vwCl [(a_i, .inr (3, [.ref a_i_bytes, .int i_filled, .int i_length, .int i_kind_137, .int i_start_137, .int i_stop_137, .int i_value_137, .int i_errorCode, .int i_errorStart])), (a_i_bytes, .inl (cI, 800, .inl i_bytes))] H → va_D A [(a_i, .inr (3, [.ref a_i_bytes, .int i_filled, .int i_length, .int i_kind_137, .int i_start_137, .int i_stop_137, .int i_value_137, .int i_errorCode, .int i_errorStart])), (a_i_bytes, .inl (cI, 800, .inl i_bytes))] → va_S A s.heap H locs → lv_has ls 1 [(0, .ref a_i)] → W p l e ({ frames := 1, cells := 0, slots := 0, locals := 21 }) s m ([.ref a_i] : List Value).toArray below meth c H locs 0 0 (MQ below (gQ dC dI none A [(a_i, .inr (3, [.ref a_i_bytes, .int i_filled, .int i_length, .int i_kind_9, .int i_start_9, .int i_stop_9, .int i_value_9, .int i_errorCode, .int i_errorStart])), (a_i_bytes, .inl (cI, 800, .inl i_bytes))]) ([.ref a_i] : List Value).toArray s 0 0 A) (F0 m 137 ls []) := by
    intro i_kind_137 i_start_137 i_stop_137 i_value_137 H locs ls hf hP hD hS hl
    rw [p3_advance_J137] at hf
    have K137 : ∀ (n137 : Nat) (i_stop_137 : Int32) (i_value_137 : Int32) (ex137 : Int32 × Int32) (H : Heap) (locs : List Loc) (ls : Array Slot), p3_advance_L137 i_bytes i_kind_137 i_length n137 i_stop_137 i_value_137 = some ex137 → (uc2 fun i_stop_x137 i_value_x137 => p3_advance_J241 i_kind_137 i_start_137 i_stop_x137 i_value_x137) ex137 = some (i_kind_9, i_start_9, i_stop_9, i_value_9) → va_P (dC, dI) vwCl [(a_i, .inr (3, [.ref a_i_bytes, .int i_filled, .int i_length, .int i_kind_137, .int i_start_137, .int i_stop_137, .int i_value_137, .int i_errorCode, .int i_errorStart])), (a_i_bytes, .inl (cI, 800, .inl i_bytes))] H → va_D A [(a_i, .inr (3, [.ref a_i_bytes, .int i_filled, .int i_length, .int i_kind_137, .int i_start_137, .int i_stop_137, .int i_value_137, .int i_errorCode, .int i_errorStart])), (a_i_bytes, .inl (cI, 800, .inl i_bytes))] → va_S A s.heap H locs → lv_has ls 1 [(0, .ref a_i)] → W p l e ({ frames := 1, cells := 0, slots := 0, locals := 21 }) s m ([.ref a_i] : List Value).toArray below meth c H locs 0 0 (MQ below (gQ dC dI none A [(a_i, .inr (3, [.ref a_i_bytes, .int i_filled, .int i_length, .int i_kind_9, .int i_start_9, .int i_stop_9, .int i_value_9, .int i_errorCode, .int i_errorStart])), (a_i_bytes, .inl (cI, 800, .inl i_bytes))]) ([.ref a_i] : List Value).toArray s 0 0 A) (F0 m 137 ls []) := by
      intro n137
      induction n137 with
      | zero => intro i_stop_137 i_value_137 ex137 H locs ls hf; rw [p3_advance_L137] at hf; cases hf
      | succ n137 ih137 =>
        intro i_stop_137 i_value_137 ex137 H locs ls hf hk137 hP hD hS hl
        rw [p3_advance_L137, p3_advance_L137_B] at hf
        have J228 : ∀ (i_value_228 : Int32) (H : Heap) (locs : List Loc) (ls : Array Slot), p3_advance_J228 i_stop_137 (p3_advance_L137 i_bytes i_kind_137 i_length n137) i_value_228 = some ex137 → va_P (dC, dI) vwCl [(a_i, .inr (3, [.ref a_i_bytes, .int i_filled, .int i_length, .int i_kind_137, .int i_start_137, .int i_stop_137, .int i_value_228, .int i_errorCode, .int i_errorStart])), (a_i_bytes, .inl (cI, 800, .inl i_bytes))] H → va_D A [(a_i, .inr (3, [.ref a_i_bytes, .int i_filled, .int i_length, .int i_kind_137, .int i_start_137, .int i_stop_137, .int i_value_228, .int i_errorCode, .int i_errorStart])), (a_i_bytes, .inl (cI, 800, .inl i_bytes))] → va_S A s.heap H locs → lv_has ls 1 [(0, .ref a_i)] → W p l e ({ frames := 1, cells := 0, slots := 0, locals := 21 }) s m ([.ref a_i] : List Value).toArray below meth c H locs 0 0 (MQ below (gQ dC dI none A [(a_i, .inr (3, [.ref a_i_bytes, .int i_filled, .int i_length, .int i_kind_9, .int i_start_9, .int i_stop_9, .int i_value_9, .int i_errorCode, .int i_errorStart])), (a_i_bytes, .inl (cI, 800, .inl i_bytes))]) ([.ref a_i] : List Value).toArray s 0 0 A) (F0 m 228 ls []) := by
          intro i_value_228 H locs ls hf hP hD hS hl
          rw [p3_advance_J228] at hf
          refine lv_aload_n hx hb dX3_advance_228 rfl (lv_at hl 0 rfl) ?_
          refine lv_dup hx hb dX3_advance_229 rfl ?_
          refine va_get (D := (dC, dI)) (ci := 3) (v := .int i_stop_137) (C := RX3) (T := TX3) (N := 9) hx hb htg inX3 hown hE.1 hP 0 rfl rfl 5 (by decide) (htg _ tw44) (fun _ h9 => h9) rfl dX3_advance_230 ?_
          refine lv_iconst (v := 1) hx hb dX3_advance_233 (by decide) ?_
          refine lv_iadd hx hb dX3_advance_234 ?_
          refine lv_topi (fun t235 h9 => ?_)
          have hf := lb_e h9 hf
          refine va_put (D := (dC, dI)) (ci := 3) (v := .int t235) (ty := .int) (C := RX3) (T := TX3) (N := 9) hx hb htg inX3 tyX3 tyX3_ok nmX3 hown hE.1 hP hD hS 0 rfl rfl 5 (by decide) (htg _ tw44) (fun _ h9 => h9) rfl (by decide +kernel) rfl rfl (Nat.le_of_ble_eq_true rfl) dX3_advance_235 (fun H locs hP hD hS => ?_)
          have hP : va_P (dC, dI) vwCl [(a_i, .inr (3, [.ref a_i_bytes, .int i_filled, .int i_length, .int i_kind_137, .int i_start_137, .int t235, .int i_value_228, .int i_errorCode, .int i_errorStart])), (a_i_bytes, .inl (cI, 800, .inl i_bytes))] H := hP
          have hD : va_D A [(a_i, .inr (3, [.ref a_i_bytes, .int i_filled, .int i_length, .int i_kind_137, .int i_start_137, .int t235, .int i_value_228, .int i_errorCode, .int i_errorStart])), (a_i_bytes, .inl (cI, 800, .inl i_bytes))] := hD
          refine lv_goto (tgt := 137) hx hb dX3_advance_238 (by decide) ?_
          exact ih137 t235 i_value_228 ex137 H locs ls hf hk137 hP hD hS (lv_sub hl [0] rfl)
        have J153 : ∀  (H : Heap) (locs : List Loc) (ls : Array Slot), p3_advance_J153 i_bytes i_kind_137 i_length i_stop_137 i_value_137 (p3_advance_L137 i_bytes i_kind_137 i_length n137) = some ex137 → va_P (dC, dI) vwCl [(a_i, .inr (3, [.ref a_i_bytes, .int i_filled, .int i_length, .int i_kind_137, .int i_start_137, .int i_stop_137, .int i_value_137, .int i_errorCode, .int i_errorStart])), (a_i_bytes, .inl (cI, 800, .inl i_bytes))] H → va_D A [(a_i, .inr (3, [.ref a_i_bytes, .int i_filled, .int i_length, .int i_kind_137, .int i_start_137, .int i_stop_137, .int i_value_137, .int i_errorCode, .int i_errorStart])), (a_i_bytes, .inl (cI, 800, .inl i_bytes))] → va_S A s.heap H locs → lv_has ls 1 [(0, .ref a_i)] → W p l e ({ frames := 1, cells := 0, slots := 0, locals := 21 }) s m ([.ref a_i] : List Value).toArray below meth c H locs 0 0 (MQ below (gQ dC dI none A [(a_i, .inr (3, [.ref a_i_bytes, .int i_filled, .int i_length, .int i_kind_9, .int i_start_9, .int i_stop_9, .int i_value_9, .int i_errorCode, .int i_errorStart])), (a_i_bytes, .inl (cI, 800, .inl i_bytes))]) ([.ref a_i] : List Value).toArray s 0 0 A) (F0 m 153 ls []) := by
          intro  H locs ls hf hP hD hS hl
          rw [p3_advance_J153] at hf
          refine lv_aload_n hx hb dX3_advance_153 rfl (lv_at hl 0 rfl) ?_
          refine va_get (D := (dC, dI)) (ci := 3) (v := .int i_stop_137) (C := RX3) (T := TX3) (N := 9) hx hb htg inX3 hown hE.1 hP 0 rfl rfl 5 (by decide) (htg _ tw44) (fun _ h9 => h9) rfl dX3_advance_154 ?_
          refine lv_aload_n hx hb dX3_advance_157 rfl (lv_at hl 0 rfl) ?_
          refine va_get (D := (dC, dI)) (ci := 3) (v := .int i_length) (C := RX3) (T := TX3) (N := 9) hx hb htg inX3 hown hE.1 hP 0 rfl rfl 2 (by decide) (htg _ tw40) (fun _ h9 => h9) rfl dX3_advance_158 ?_
          refine lv_icmp_ge (tgt := 241) hx hb dX3_advance_161 (by decide) (fun h9 => ?_) (fun h9 => ?_)
          · have hf := itt h9 hf
            cases hf
            have hf := hk137
            have hf := uc2_e hf
            exact J241 i_kind_137 i_start_137 i_stop_137 i_value_137 H locs ls hf hP hD hS (lv_sub hl [] rfl)
          · have hf := itf h9 hf
            refine lv_aload_n hx hb dX3_advance_164 rfl (lv_at hl 0 rfl) ?_
            refine va_get (D := (dC, dI)) (ci := 3) (v := .ref a_i_bytes) (C := RX3) (T := TX3) (N := 9) hx hb htg inX3 hown hE.1 hP 0 rfl rfl 0 (by decide) (htg _ tw37) (fun _ h9 => h9) rfl dX3_advance_165 ?_
            refine lv_aload_n hx hb dX3_advance_168 rfl (lv_at hl 0 rfl) ?_
            refine va_get (D := (dC, dI)) (ci := 3) (v := .int i_stop_137) (C := RX3) (T := TX3) (N := 9) hx hb htg inX3 hown hE.1 hP 0 rfl rfl 5 (by decide) (htg _ tw44) (fun _ h9 => h9) rfl dX3_advance_169 ?_
            refine gcSN (index := 45) (host := "FamilyChart") S hE (c_X9_at a_i_bytes i_bytes 800 (Nat.le_of_ble_eq_true rfl) i_stop_137 (pAt 800 i_bytes i_stop_137) rfl) mX9_at nw19 ⟨Nat.le_of_ble_eq_true rfl, Nat.le_of_ble_eq_true rfl⟩ hP hD hS hA ⟨Nat.zero_le _, Nat.zero_le _⟩ (wr := [(a_i, .inr (3, [.ref a_i_bytes, .int i_filled, .int i_length, .int i_kind_137, .int i_start_137, .int i_stop_137, .int i_value_137, .int i_errorCode, .int i_errorStart]))]) [1] [0] rfl rfl rfl rfl (by decide) (As := [.ref a_i_bytes, .int i_stop_137]) (rest := []) rfl hl.1 rfl (Nat.le_of_ble_eq_true rfl) dX3_advance_172 (fun H locs hP hD hS => ?_)
            refine W.eq (g2 := F0 m 175 ls [.int (pAt 800 i_bytes i_stop_137)]) rfl ?_
            have hP : va_P (dC, dI) vwCl [(a_i, .inr (3, [.ref a_i_bytes, .int i_filled, .int i_length, .int i_kind_137, .int i_start_137, .int i_stop_137, .int i_value_137, .int i_errorCode, .int i_errorStart])), (a_i_bytes, .inl (cI, 800, .inl i_bytes))] H := hP
            have hD : va_D A [(a_i, .inr (3, [.ref a_i_bytes, .int i_filled, .int i_length, .int i_kind_137, .int i_start_137, .int i_stop_137, .int i_value_137, .int i_errorCode, .int i_errorStart])), (a_i_bytes, .inl (cI, 800, .inl i_bytes))] := hD
            refine gcS (index := 49) S hE (c_X3_kindOf (pAt 800 i_bytes i_stop_137) (p3_kindOf (pAt 800 i_bytes i_stop_137)) rfl) mX3_kindOf tw806 ⟨Nat.le_of_ble_eq_true rfl, Nat.le_of_ble_eq_true rfl⟩ hP hD hS hA ⟨Nat.zero_le _, Nat.zero_le _⟩ (wr := [(a_i, .inr (3, [.ref a_i_bytes, .int i_filled, .int i_length, .int i_kind_137, .int i_start_137, .int i_stop_137, .int i_value_137, .int i_errorCode, .int i_errorStart])), (a_i_bytes, .inl (cI, 800, .inl i_bytes))]) [] [0, 1] rfl rfl rfl rfl (by decide) (As := [.int (pAt 800 i_bytes i_stop_137)]) (rest := []) rfl hl.1 rfl (Nat.le_of_ble_eq_true rfl) dX3_advance_175 (fun H locs hP hD hS => ?_)
            refine W.eq (g2 := F0 m 178 ls [.int (p3_kindOf (pAt 800 i_bytes i_stop_137))]) rfl ?_
            have hP : va_P (dC, dI) vwCl [(a_i, .inr (3, [.ref a_i_bytes, .int i_filled, .int i_length, .int i_kind_137, .int i_start_137, .int i_stop_137, .int i_value_137, .int i_errorCode, .int i_errorStart])), (a_i_bytes, .inl (cI, 800, .inl i_bytes))] H := hP
            have hD : va_D A [(a_i, .inr (3, [.ref a_i_bytes, .int i_filled, .int i_length, .int i_kind_137, .int i_start_137, .int i_stop_137, .int i_value_137, .int i_errorCode, .int i_errorStart])), (a_i_bytes, .inl (cI, 800, .inl i_bytes))] := hD
            refine lv_aload_n hx hb dX3_advance_178 rfl (lv_at hl 0 rfl) ?_
            refine va_get (D := (dC, dI)) (ci := 3) (v := .int i_kind_137) (C := RX3) (T := TX3) (N := 9) hx hb htg inX3 hown hE.1 hP 0 rfl rfl 3 (by decide) (htg _ tw42) (fun _ h9 => h9) rfl dX3_advance_179 ?_
            refine lv_icmp_ne (tgt := 241) hx hb dX3_advance_182 (by decide) (fun h9 => ?_) (fun h9 => ?_)
            · have hf := itf h9 hf
              cases hf
              have hf := hk137
              have hf := uc2_e hf
              exact J241 i_kind_137 i_start_137 i_stop_137 i_value_137 H locs ls hf hP hD hS (lv_sub hl [] rfl)
            · have hf := itt h9 hf
              refine lv_aload_n hx hb dX3_advance_185 rfl (lv_at hl 0 rfl) ?_
              refine lv_aload_n hx hb dX3_advance_186 rfl (lv_at hl 0 rfl) ?_
              refine va_get (D := (dC, dI)) (ci := 3) (v := .int i_kind_137) (C := RX3) (T := TX3) (N := 9) hx hb htg inX3 hown hE.1 hP 0 rfl rfl 3 (by decide) (htg _ tw42) (fun _ h9 => h9) rfl dX3_advance_187 ?_
              refine lv_iconst (v := 1) hx hb dX3_advance_190 (by decide) ?_
              refine lv_icmp_ne (tgt := 198) hx hb dX3_advance_191 (by decide) (fun h9 => ?_) (fun h9 => ?_)
              · have hf := itf h9 hf
                refine lv_ldc (own := RX3) (v := 1000000) hx hb hown (htg _ tw809) dX3_advance_198 ?_
                refine lv_aload_n hx hb dX3_advance_200 rfl (lv_at hl 0 rfl) ?_
                refine va_get (D := (dC, dI)) (ci := 3) (v := .int i_value_137) (C := RX3) (T := TX3) (N := 9) hx hb htg inX3 hown hE.1 hP 0 rfl rfl 6 (by decide) (htg _ tw45) (fun _ h9 => h9) rfl dX3_advance_201 ?_
                refine lv_bipush (v := 10) hx hb dX3_advance_204 (by decide) ?_
                refine lv_imul hx hb dX3_advance_206 ?_
                refine lv_aload_n hx hb dX3_advance_207 rfl (lv_at hl 0 rfl) ?_
                refine va_get (D := (dC, dI)) (ci := 3) (v := .ref a_i_bytes) (C := RX3) (T := TX3) (N := 9) hx hb htg inX3 hown hE.1 hP 0 rfl rfl 0 (by decide) (htg _ tw37) (fun _ h9 => h9) rfl dX3_advance_208 ?_
                refine lv_aload_n hx hb dX3_advance_211 rfl (lv_at hl 0 rfl) ?_
                refine va_get (D := (dC, dI)) (ci := 3) (v := .int i_stop_137) (C := RX3) (T := TX3) (N := 9) hx hb htg inX3 hown hE.1 hP 0 rfl rfl 5 (by decide) (htg _ tw44) (fun _ h9 => h9) rfl dX3_advance_212 ?_
                refine gcSN (index := 45) (host := "FamilyChart") S hE (c_X9_at a_i_bytes i_bytes 800 (Nat.le_of_ble_eq_true rfl) i_stop_137 (pAt 800 i_bytes i_stop_137) rfl) mX9_at nw19 ⟨Nat.le_of_ble_eq_true rfl, Nat.le_of_ble_eq_true rfl⟩ hP hD hS hA ⟨Nat.zero_le _, Nat.zero_le _⟩ (wr := [(a_i, .inr (3, [.ref a_i_bytes, .int i_filled, .int i_length, .int i_kind_137, .int i_start_137, .int i_stop_137, .int i_value_137, .int i_errorCode, .int i_errorStart]))]) [1] [0] rfl rfl rfl rfl (by decide) (As := [.ref a_i_bytes, .int i_stop_137]) (rest := [.int (i_value_137 * (10 : Int32)), .int (1000000 : Int32), .ref a_i]) rfl hl.1 rfl (Nat.le_of_ble_eq_true rfl) dX3_advance_215 (fun H locs hP hD hS => ?_)
                refine W.eq (g2 := F0 m 218 ls [.int (pAt 800 i_bytes i_stop_137), .int (i_value_137 * (10 : Int32)), .int (1000000 : Int32), .ref a_i]) rfl ?_
                have hP : va_P (dC, dI) vwCl [(a_i, .inr (3, [.ref a_i_bytes, .int i_filled, .int i_length, .int i_kind_137, .int i_start_137, .int i_stop_137, .int i_value_137, .int i_errorCode, .int i_errorStart])), (a_i_bytes, .inl (cI, 800, .inl i_bytes))] H := hP
                have hD : va_D A [(a_i, .inr (3, [.ref a_i_bytes, .int i_filled, .int i_length, .int i_kind_137, .int i_start_137, .int i_stop_137, .int i_value_137, .int i_errorCode, .int i_errorStart])), (a_i_bytes, .inl (cI, 800, .inl i_bytes))] := hD
                refine lv_iadd hx hb dX3_advance_218 ?_
                refine lv_bipush (v := 48) hx hb dX3_advance_219 (by decide) ?_
                refine lv_isub hx hb dX3_advance_221 ?_
                refine va_mmin hx hb (hml.trans hl.1.symm) hown (htg _ tw810) (htg _ tw426) (htg _ tw11) (htg _ tw427) (Nat.le_of_ble_eq_true rfl) (Nat.le_of_ble_eq_true rfl) (Nat.zero_le _) (Nat.zero_le _) dX3_advance_222 ?_
                refine W.eq (g2 := F0 m 225 ls [.int (imin ((1000000 : Int32)) ((((i_value_137 * (10 : Int32)) + (pAt 800 i_bytes i_stop_137)) - (48 : Int32)))), .ref a_i]) rfl ?_
                refine lv_topi (fun t225 h9 => ?_)
                have hf := lb_e h9 hf
                refine va_put (D := (dC, dI)) (ci := 3) (v := .int t225) (ty := .int) (C := RX3) (T := TX3) (N := 9) hx hb htg inX3 tyX3 tyX3_ok nmX3 hown hE.1 hP hD hS 0 rfl rfl 6 (by decide) (htg _ tw45) (fun _ h9 => h9) rfl (by decide +kernel) rfl rfl (Nat.le_of_ble_eq_true rfl) dX3_advance_225 (fun H locs hP hD hS => ?_)
                have hP : va_P (dC, dI) vwCl [(a_i, .inr (3, [.ref a_i_bytes, .int i_filled, .int i_length, .int i_kind_137, .int i_start_137, .int i_stop_137, .int t225, .int i_errorCode, .int i_errorStart])), (a_i_bytes, .inl (cI, 800, .inl i_bytes))] H := hP
                have hD : va_D A [(a_i, .inr (3, [.ref a_i_bytes, .int i_filled, .int i_length, .int i_kind_137, .int i_start_137, .int i_stop_137, .int t225, .int i_errorCode, .int i_errorStart])), (a_i_bytes, .inl (cI, 800, .inl i_bytes))] := hD
                exact J228 t225 H locs ls hf hP hD hS (lv_sub hl [0] rfl)
              · have hf := itt h9 hf
                refine lv_iconst (v := 0) hx hb dX3_advance_194 (by decide) ?_
                refine lv_goto (tgt := 225) hx hb dX3_advance_195 (by decide) ?_
                refine va_put (D := (dC, dI)) (ci := 3) (v := .int (0 : Int32)) (ty := .int) (C := RX3) (T := TX3) (N := 9) hx hb htg inX3 tyX3 tyX3_ok nmX3 hown hE.1 hP hD hS 0 rfl rfl 6 (by decide) (htg _ tw45) (fun _ h9 => h9) rfl (by decide +kernel) rfl rfl (Nat.le_of_ble_eq_true rfl) dX3_advance_225 (fun H locs hP hD hS => ?_)
                have hP : va_P (dC, dI) vwCl [(a_i, .inr (3, [.ref a_i_bytes, .int i_filled, .int i_length, .int i_kind_137, .int i_start_137, .int i_stop_137, .int (0 : Int32), .int i_errorCode, .int i_errorStart])), (a_i_bytes, .inl (cI, 800, .inl i_bytes))] H := hP
                have hD : va_D A [(a_i, .inr (3, [.ref a_i_bytes, .int i_filled, .int i_length, .int i_kind_137, .int i_start_137, .int i_stop_137, .int (0 : Int32), .int i_errorCode, .int i_errorStart])), (a_i_bytes, .inl (cI, 800, .inl i_bytes))] := hD
                exact J228 (0 : Int32) H locs ls hf hP hD hS (lv_sub hl [0] rfl)
        refine lv_aload_n hx hb dX3_advance_137 rfl (lv_at hl 0 rfl) ?_
        refine va_get (D := (dC, dI)) (ci := 3) (v := .int i_kind_137) (C := RX3) (T := TX3) (N := 9) hx hb htg inX3 hown hE.1 hP 0 rfl rfl 3 (by decide) (htg _ tw42) (fun _ h9 => h9) rfl dX3_advance_138 ?_
        refine lv_iconst (v := 1) hx hb dX3_advance_141 (by decide) ?_
        refine lv_icmp_eq (tgt := 153) hx hb dX3_advance_142 (by decide) (fun h9 => ?_) (fun h9 => ?_)
        · have hf := itt h9 hf
          exact J153 H locs ls hf hP hD hS (lv_sub hl [0] rfl)
        · have hf := itf h9 hf
          refine lv_aload_n hx hb dX3_advance_145 rfl (lv_at hl 0 rfl) ?_
          refine va_get (D := (dC, dI)) (ci := 3) (v := .int i_kind_137) (C := RX3) (T := TX3) (N := 9) hx hb htg inX3 hown hE.1 hP 0 rfl rfl 3 (by decide) (htg _ tw42) (fun _ h9 => h9) rfl dX3_advance_146 ?_
          refine lv_iconst (v := 2) hx hb dX3_advance_149 (by decide) ?_
          refine lv_icmp_ne (tgt := 241) hx hb dX3_advance_150 (by decide) (fun h9 => ?_) (fun h9 => ?_)
          · have hf := itf h9 hf
            cases hf
            have hf := hk137
            have hf := uc2_e hf
            exact J241 i_kind_137 i_start_137 i_stop_137 i_value_137 H locs ls hf hP hD hS (lv_sub hl [] rfl)
          · have hf := itt h9 hf
            exact J153 H locs ls hf hP hD hS (lv_sub hl [0] rfl)
    obtain ⟨ex, h9, hf⟩ := ob_s hf
    exact K137 FU i_stop_137 i_value_137 ex H locs ls h9 hf hP hD hS (lv_sub hl [0] rfl)
  have J104 : ∀ (i_kind_104 : Int32) (i_start_104 : Int32) (i_stop_104 : Int32) (i_value_104 : Int32) (H : Heap) (locs : List Loc) (ls : Array Slot), p3_advance_J104 i_bytes i_length i_kind_104 i_start_104 i_stop_104 i_value_104 = some (i_kind_9, i_start_9, i_stop_9, i_value_9) → va_P (dC, dI) vwCl [(a_i, .inr (3, [.ref a_i_bytes, .int i_filled, .int i_length, .int i_kind_104, .int i_start_104, .int i_stop_104, .int i_value_104, .int i_errorCode, .int i_errorStart])), (a_i_bytes, .inl (cI, 800, .inl i_bytes))] H → va_D A [(a_i, .inr (3, [.ref a_i_bytes, .int i_filled, .int i_length, .int i_kind_104, .int i_start_104, .int i_stop_104, .int i_value_104, .int i_errorCode, .int i_errorStart])), (a_i_bytes, .inl (cI, 800, .inl i_bytes))] → va_S A s.heap H locs → lv_has ls 1 [(0, .ref a_i)] → W p l e ({ frames := 1, cells := 0, slots := 0, locals := 21 }) s m ([.ref a_i] : List Value).toArray below meth c H locs 0 0 (MQ below (gQ dC dI none A [(a_i, .inr (3, [.ref a_i_bytes, .int i_filled, .int i_length, .int i_kind_9, .int i_start_9, .int i_stop_9, .int i_value_9, .int i_errorCode, .int i_errorStart])), (a_i_bytes, .inl (cI, 800, .inl i_bytes))]) ([.ref a_i] : List Value).toArray s 0 0 A) (F0 m 104 ls []) := by
    intro i_kind_104 i_start_104 i_stop_104 i_value_104 H locs ls hf hP hD hS hl
    rw [p3_advance_J104] at hf
    refine lv_aload_n hx hb dX3_advance_104 rfl (lv_at hl 0 rfl) ?_
    refine va_get (D := (dC, dI)) (ci := 3) (v := .int i_kind_104) (C := RX3) (T := TX3) (N := 9) hx hb htg inX3 hown hE.1 hP 0 rfl rfl 3 (by decide) (htg _ tw42) (fun _ h9 => h9) rfl dX3_advance_105 ?_
    refine lv_iconst (v := 3) hx hb dX3_advance_108 (by decide) ?_
    refine lv_icmp_ne (tgt := 137) hx hb dX3_advance_109 (by decide) (fun h9 => ?_) (fun h9 => ?_)
    · have hf := itf h9 hf
      exact J137 i_kind_104 i_start_104 i_stop_104 i_value_104 H locs ls hf hP hD hS (lv_sub hl [0] rfl)
    · have hf := itt h9 hf
      refine lv_aload_n hx hb dX3_advance_112 rfl (lv_at hl 0 rfl) ?_
      refine lv_aload_n hx hb dX3_advance_113 rfl (lv_at hl 0 rfl) ?_
      refine va_get (D := (dC, dI)) (ci := 3) (v := .ref a_i_bytes) (C := RX3) (T := TX3) (N := 9) hx hb htg inX3 hown hE.1 hP 0 rfl rfl 0 (by decide) (htg _ tw37) (fun _ h9 => h9) rfl dX3_advance_114 ?_
      refine lv_aload_n hx hb dX3_advance_117 rfl (lv_at hl 0 rfl) ?_
      refine va_get (D := (dC, dI)) (ci := 3) (v := .int i_start_104) (C := RX3) (T := TX3) (N := 9) hx hb htg inX3 hown hE.1 hP 0 rfl rfl 4 (by decide) (htg _ tw43) (fun _ h9 => h9) rfl dX3_advance_118 ?_
      refine gcSN (index := 45) (host := "FamilyChart") S hE (c_X9_at a_i_bytes i_bytes 800 (Nat.le_of_ble_eq_true rfl) i_start_104 (pAt 800 i_bytes i_start_104) rfl) mX9_at nw19 ⟨Nat.le_of_ble_eq_true rfl, Nat.le_of_ble_eq_true rfl⟩ hP hD hS hA ⟨Nat.zero_le _, Nat.zero_le _⟩ (wr := [(a_i, .inr (3, [.ref a_i_bytes, .int i_filled, .int i_length, .int i_kind_104, .int i_start_104, .int i_stop_104, .int i_value_104, .int i_errorCode, .int i_errorStart]))]) [1] [0] rfl rfl rfl rfl (by decide) (As := [.ref a_i_bytes, .int i_start_104]) (rest := [.ref a_i]) rfl hl.1 rfl (Nat.le_of_ble_eq_true rfl) dX3_advance_121 (fun H locs hP hD hS => ?_)
      refine W.eq (g2 := F0 m 124 ls [.int (pAt 800 i_bytes i_start_104), .ref a_i]) rfl ?_
      have hP : va_P (dC, dI) vwCl [(a_i, .inr (3, [.ref a_i_bytes, .int i_filled, .int i_length, .int i_kind_104, .int i_start_104, .int i_stop_104, .int i_value_104, .int i_errorCode, .int i_errorStart])), (a_i_bytes, .inl (cI, 800, .inl i_bytes))] H := hP
      have hD : va_D A [(a_i, .inr (3, [.ref a_i_bytes, .int i_filled, .int i_length, .int i_kind_104, .int i_start_104, .int i_stop_104, .int i_value_104, .int i_errorCode, .int i_errorStart])), (a_i_bytes, .inl (cI, 800, .inl i_bytes))] := hD
      refine lv_topi (fun t124 h9 => ?_)
      have hf := lb_e h9 hf
      refine va_put (D := (dC, dI)) (ci := 3) (v := .int t124) (ty := .int) (C := RX3) (T := TX3) (N := 9) hx hb htg inX3 tyX3 tyX3_ok nmX3 hown hE.1 hP hD hS 0 rfl rfl 6 (by decide) (htg _ tw45) (fun _ h9 => h9) rfl (by decide +kernel) rfl rfl (Nat.le_of_ble_eq_true rfl) dX3_advance_124 (fun H locs hP hD hS => ?_)
      have hP : va_P (dC, dI) vwCl [(a_i, .inr (3, [.ref a_i_bytes, .int i_filled, .int i_length, .int i_kind_104, .int i_start_104, .int i_stop_104, .int t124, .int i_errorCode, .int i_errorStart])), (a_i_bytes, .inl (cI, 800, .inl i_bytes))] H := hP
      have hD : va_D A [(a_i, .inr (3, [.ref a_i_bytes, .int i_filled, .int i_length, .int i_kind_104, .int i_start_104, .int i_stop_104, .int t124, .int i_errorCode, .int i_errorStart])), (a_i_bytes, .inl (cI, 800, .inl i_bytes))] := hD
      refine lv_aload_n hx hb dX3_advance_127 rfl (lv_at hl 0 rfl) ?_
      refine lv_dup hx hb dX3_advance_128 rfl ?_
      refine va_get (D := (dC, dI)) (ci := 3) (v := .int i_stop_104) (C := RX3) (T := TX3) (N := 9) hx hb htg inX3 hown hE.1 hP 0 rfl rfl 5 (by decide) (htg _ tw44) (fun _ h9 => h9) rfl dX3_advance_129 ?_
      refine lv_iconst (v := 1) hx hb dX3_advance_132 (by decide) ?_
      refine lv_iadd hx hb dX3_advance_133 ?_
      refine lv_topi (fun t134 h9 => ?_)
      have hf := lb_e h9 hf
      refine va_put (D := (dC, dI)) (ci := 3) (v := .int t134) (ty := .int) (C := RX3) (T := TX3) (N := 9) hx hb htg inX3 tyX3 tyX3_ok nmX3 hown hE.1 hP hD hS 0 rfl rfl 5 (by decide) (htg _ tw44) (fun _ h9 => h9) rfl (by decide +kernel) rfl rfl (Nat.le_of_ble_eq_true rfl) dX3_advance_134 (fun H locs hP hD hS => ?_)
      have hP : va_P (dC, dI) vwCl [(a_i, .inr (3, [.ref a_i_bytes, .int i_filled, .int i_length, .int i_kind_104, .int i_start_104, .int t134, .int t124, .int i_errorCode, .int i_errorStart])), (a_i_bytes, .inl (cI, 800, .inl i_bytes))] H := hP
      have hD : va_D A [(a_i, .inr (3, [.ref a_i_bytes, .int i_filled, .int i_length, .int i_kind_104, .int i_start_104, .int t134, .int t124, .int i_errorCode, .int i_errorStart])), (a_i_bytes, .inl (cI, 800, .inl i_bytes))] := hD
      exact J137 i_kind_104 i_start_104 t134 t124 H locs ls hf hP hD hS (lv_sub hl [0] rfl)
  have J58 : ∀ (i_start_58 : Int32) (H : Heap) (locs : List Loc) (ls : Array Slot), p3_advance_J58 i_bytes i_length i_start_58 = some (i_kind_9, i_start_9, i_stop_9, i_value_9) → va_P (dC, dI) vwCl [(a_i, .inr (3, [.ref a_i_bytes, .int i_filled, .int i_length, .int i_kind, .int i_start_58, .int i_stop, .int i_value, .int i_errorCode, .int i_errorStart])), (a_i_bytes, .inl (cI, 800, .inl i_bytes))] H → va_D A [(a_i, .inr (3, [.ref a_i_bytes, .int i_filled, .int i_length, .int i_kind, .int i_start_58, .int i_stop, .int i_value, .int i_errorCode, .int i_errorStart])), (a_i_bytes, .inl (cI, 800, .inl i_bytes))] → va_S A s.heap H locs → lv_has ls 1 [(0, .ref a_i)] → W p l e ({ frames := 1, cells := 0, slots := 0, locals := 21 }) s m ([.ref a_i] : List Value).toArray below meth c H locs 0 0 (MQ below (gQ dC dI none A [(a_i, .inr (3, [.ref a_i_bytes, .int i_filled, .int i_length, .int i_kind_9, .int i_start_9, .int i_stop_9, .int i_value_9, .int i_errorCode, .int i_errorStart])), (a_i_bytes, .inl (cI, 800, .inl i_bytes))]) ([.ref a_i] : List Value).toArray s 0 0 A) (F0 m 58 ls []) := by
    intro i_start_58 H locs ls hf hP hD hS hl
    rw [p3_advance_J58] at hf
    refine lv_aload_n hx hb dX3_advance_58 rfl (lv_at hl 0 rfl) ?_
    refine lv_aload_n hx hb dX3_advance_59 rfl (lv_at hl 0 rfl) ?_
    refine va_get (D := (dC, dI)) (ci := 3) (v := .int i_start_58) (C := RX3) (T := TX3) (N := 9) hx hb htg inX3 hown hE.1 hP 0 rfl rfl 4 (by decide) (htg _ tw43) (fun _ h9 => h9) rfl dX3_advance_60 ?_
    refine va_put (D := (dC, dI)) (ci := 3) (v := .int i_start_58) (ty := .int) (C := RX3) (T := TX3) (N := 9) hx hb htg inX3 tyX3 tyX3_ok nmX3 hown hE.1 hP hD hS 0 rfl rfl 5 (by decide) (htg _ tw44) (fun _ h9 => h9) rfl (by decide +kernel) rfl rfl (Nat.le_of_ble_eq_true rfl) dX3_advance_63 (fun H locs hP hD hS => ?_)
    have hP : va_P (dC, dI) vwCl [(a_i, .inr (3, [.ref a_i_bytes, .int i_filled, .int i_length, .int i_kind, .int i_start_58, .int i_start_58, .int i_value, .int i_errorCode, .int i_errorStart])), (a_i_bytes, .inl (cI, 800, .inl i_bytes))] H := hP
    have hD : va_D A [(a_i, .inr (3, [.ref a_i_bytes, .int i_filled, .int i_length, .int i_kind, .int i_start_58, .int i_start_58, .int i_value, .int i_errorCode, .int i_errorStart])), (a_i_bytes, .inl (cI, 800, .inl i_bytes))] := hD
    refine lv_aload_n hx hb dX3_advance_66 rfl (lv_at hl 0 rfl) ?_
    refine lv_iconst (v := 0) hx hb dX3_advance_67 (by decide) ?_
    refine va_put (D := (dC, dI)) (ci := 3) (v := .int (0 : Int32)) (ty := .int) (C := RX3) (T := TX3) (N := 9) hx hb htg inX3 tyX3 tyX3_ok nmX3 hown hE.1 hP hD hS 0 rfl rfl 6 (by decide) (htg _ tw45) (fun _ h9 => h9) rfl (by decide +kernel) rfl rfl (Nat.le_of_ble_eq_true rfl) dX3_advance_68 (fun H locs hP hD hS => ?_)
    have hP : va_P (dC, dI) vwCl [(a_i, .inr (3, [.ref a_i_bytes, .int i_filled, .int i_length, .int i_kind, .int i_start_58, .int i_start_58, .int (0 : Int32), .int i_errorCode, .int i_errorStart])), (a_i_bytes, .inl (cI, 800, .inl i_bytes))] H := hP
    have hD : va_D A [(a_i, .inr (3, [.ref a_i_bytes, .int i_filled, .int i_length, .int i_kind, .int i_start_58, .int i_start_58, .int (0 : Int32), .int i_errorCode, .int i_errorStart])), (a_i_bytes, .inl (cI, 800, .inl i_bytes))] := hD
    refine lv_aload_n hx hb dX3_advance_71 rfl (lv_at hl 0 rfl) ?_
    refine lv_aload_n hx hb dX3_advance_72 rfl (lv_at hl 0 rfl) ?_
    refine va_get (D := (dC, dI)) (ci := 3) (v := .int i_start_58) (C := RX3) (T := TX3) (N := 9) hx hb htg inX3 hown hE.1 hP 0 rfl rfl 4 (by decide) (htg _ tw43) (fun _ h9 => h9) rfl dX3_advance_73 ?_
    refine lv_aload_n hx hb dX3_advance_76 rfl (lv_at hl 0 rfl) ?_
    refine va_get (D := (dC, dI)) (ci := 3) (v := .int i_length) (C := RX3) (T := TX3) (N := 9) hx hb htg inX3 hown hE.1 hP 0 rfl rfl 2 (by decide) (htg _ tw40) (fun _ h9 => h9) rfl dX3_advance_77 ?_
    refine lv_icmp_ge (tgt := 100) hx hb dX3_advance_80 (by decide) (fun h9 => ?_) (fun h9 => ?_)
    · have hf := itt h9 hf
      refine lv_iconst (v := 0) hx hb dX3_advance_100 (by decide) ?_
      refine va_put (D := (dC, dI)) (ci := 3) (v := .int (0 : Int32)) (ty := .int) (C := RX3) (T := TX3) (N := 9) hx hb htg inX3 tyX3 tyX3_ok nmX3 hown hE.1 hP hD hS 0 rfl rfl 3 (by decide) (htg _ tw42) (fun _ h9 => h9) rfl (by decide +kernel) rfl rfl (Nat.le_of_ble_eq_true rfl) dX3_advance_101 (fun H locs hP hD hS => ?_)
      have hP : va_P (dC, dI) vwCl [(a_i, .inr (3, [.ref a_i_bytes, .int i_filled, .int i_length, .int (0 : Int32), .int i_start_58, .int i_start_58, .int (0 : Int32), .int i_errorCode, .int i_errorStart])), (a_i_bytes, .inl (cI, 800, .inl i_bytes))] H := hP
      have hD : va_D A [(a_i, .inr (3, [.ref a_i_bytes, .int i_filled, .int i_length, .int (0 : Int32), .int i_start_58, .int i_start_58, .int (0 : Int32), .int i_errorCode, .int i_errorStart])), (a_i_bytes, .inl (cI, 800, .inl i_bytes))] := hD
      exact J104 (0 : Int32) i_start_58 i_start_58 (0 : Int32) H locs ls hf hP hD hS (lv_sub hl [0] rfl)
    · have hf := itf h9 hf
      refine lv_aload_n hx hb dX3_advance_83 rfl (lv_at hl 0 rfl) ?_
      refine va_get (D := (dC, dI)) (ci := 3) (v := .ref a_i_bytes) (C := RX3) (T := TX3) (N := 9) hx hb htg inX3 hown hE.1 hP 0 rfl rfl 0 (by decide) (htg _ tw37) (fun _ h9 => h9) rfl dX3_advance_84 ?_
      refine lv_aload_n hx hb dX3_advance_87 rfl (lv_at hl 0 rfl) ?_
      refine va_get (D := (dC, dI)) (ci := 3) (v := .int i_start_58) (C := RX3) (T := TX3) (N := 9) hx hb htg inX3 hown hE.1 hP 0 rfl rfl 4 (by decide) (htg _ tw43) (fun _ h9 => h9) rfl dX3_advance_88 ?_
      refine gcSN (index := 45) (host := "FamilyChart") S hE (c_X9_at a_i_bytes i_bytes 800 (Nat.le_of_ble_eq_true rfl) i_start_58 (pAt 800 i_bytes i_start_58) rfl) mX9_at nw19 ⟨Nat.le_of_ble_eq_true rfl, Nat.le_of_ble_eq_true rfl⟩ hP hD hS hA ⟨Nat.zero_le _, Nat.zero_le _⟩ (wr := [(a_i, .inr (3, [.ref a_i_bytes, .int i_filled, .int i_length, .int i_kind, .int i_start_58, .int i_start_58, .int (0 : Int32), .int i_errorCode, .int i_errorStart]))]) [1] [0] rfl rfl rfl rfl (by decide) (As := [.ref a_i_bytes, .int i_start_58]) (rest := [.ref a_i]) rfl hl.1 rfl (Nat.le_of_ble_eq_true rfl) dX3_advance_91 (fun H locs hP hD hS => ?_)
      refine W.eq (g2 := F0 m 94 ls [.int (pAt 800 i_bytes i_start_58), .ref a_i]) rfl ?_
      have hP : va_P (dC, dI) vwCl [(a_i, .inr (3, [.ref a_i_bytes, .int i_filled, .int i_length, .int i_kind, .int i_start_58, .int i_start_58, .int (0 : Int32), .int i_errorCode, .int i_errorStart])), (a_i_bytes, .inl (cI, 800, .inl i_bytes))] H := hP
      have hD : va_D A [(a_i, .inr (3, [.ref a_i_bytes, .int i_filled, .int i_length, .int i_kind, .int i_start_58, .int i_start_58, .int (0 : Int32), .int i_errorCode, .int i_errorStart])), (a_i_bytes, .inl (cI, 800, .inl i_bytes))] := hD
      refine gcS (index := 49) S hE (c_X3_kindOf (pAt 800 i_bytes i_start_58) (p3_kindOf (pAt 800 i_bytes i_start_58)) rfl) mX3_kindOf tw806 ⟨Nat.le_of_ble_eq_true rfl, Nat.le_of_ble_eq_true rfl⟩ hP hD hS hA ⟨Nat.zero_le _, Nat.zero_le _⟩ (wr := [(a_i, .inr (3, [.ref a_i_bytes, .int i_filled, .int i_length, .int i_kind, .int i_start_58, .int i_start_58, .int (0 : Int32), .int i_errorCode, .int i_errorStart])), (a_i_bytes, .inl (cI, 800, .inl i_bytes))]) [] [0, 1] rfl rfl rfl rfl (by decide) (As := [.int (pAt 800 i_bytes i_start_58)]) (rest := [.ref a_i]) rfl hl.1 rfl (Nat.le_of_ble_eq_true rfl) dX3_advance_94 (fun H locs hP hD hS => ?_)
      refine W.eq (g2 := F0 m 97 ls [.int (p3_kindOf (pAt 800 i_bytes i_start_58)), .ref a_i]) rfl ?_
      have hP : va_P (dC, dI) vwCl [(a_i, .inr (3, [.ref a_i_bytes, .int i_filled, .int i_length, .int i_kind, .int i_start_58, .int i_start_58, .int (0 : Int32), .int i_errorCode, .int i_errorStart])), (a_i_bytes, .inl (cI, 800, .inl i_bytes))] H := hP
      have hD : va_D A [(a_i, .inr (3, [.ref a_i_bytes, .int i_filled, .int i_length, .int i_kind, .int i_start_58, .int i_start_58, .int (0 : Int32), .int i_errorCode, .int i_errorStart])), (a_i_bytes, .inl (cI, 800, .inl i_bytes))] := hD
      refine lv_goto (tgt := 101) hx hb dX3_advance_97 (by decide) ?_
      refine lv_topi (fun t101 h9 => ?_)
      have hf := lb_e h9 hf
      refine va_put (D := (dC, dI)) (ci := 3) (v := .int t101) (ty := .int) (C := RX3) (T := TX3) (N := 9) hx hb htg inX3 tyX3 tyX3_ok nmX3 hown hE.1 hP hD hS 0 rfl rfl 3 (by decide) (htg _ tw42) (fun _ h9 => h9) rfl (by decide +kernel) rfl rfl (Nat.le_of_ble_eq_true rfl) dX3_advance_101 (fun H locs hP hD hS => ?_)
      have hP : va_P (dC, dI) vwCl [(a_i, .inr (3, [.ref a_i_bytes, .int i_filled, .int i_length, .int t101, .int i_start_58, .int i_start_58, .int (0 : Int32), .int i_errorCode, .int i_errorStart])), (a_i_bytes, .inl (cI, 800, .inl i_bytes))] H := hP
      have hD : va_D A [(a_i, .inr (3, [.ref a_i_bytes, .int i_filled, .int i_length, .int t101, .int i_start_58, .int i_start_58, .int (0 : Int32), .int i_errorCode, .int i_errorStart])), (a_i_bytes, .inl (cI, 800, .inl i_bytes))] := hD
      exact J104 t101 i_start_58 i_start_58 (0 : Int32) H locs ls hf hP hD hS (lv_sub hl [0] rfl)
  refine lv_aload_n hx hb dX3_advance_0 rfl (lv_at hl 0 rfl) ?_
  refine gcV (index := 38) S hE (c_X3_isFine a_i a_i_bytes i_filled i_length i_kind i_start i_stop i_value i_errorCode i_errorStart (p3_isFine i_errorCode) rfl) mX3_isFine tw801 ⟨Nat.le_of_ble_eq_true rfl, Nat.le_of_ble_eq_true rfl⟩ hP hD hS hA ⟨Nat.zero_le _, Nat.zero_le _⟩ 0 3 rfl rfl rfl (wr := [(a_i_bytes, .inl (cI, 800, .inl i_bytes))]) [0] [1] rfl rfl rfl rfl (by decide) (As := []) (rest := []) rfl hl.1 rfl (Nat.le_of_ble_eq_true rfl) dX3_advance_1 (fun H locs hP hD hS => ?_)
  refine W.eq (g2 := F0 m 4 ls [.int (bI (p3_isFine i_errorCode))]) rfl ?_
  have hP : va_P (dC, dI) vwCl [(a_i_bytes, .inl (cI, 800, .inl i_bytes)), (a_i, .inr (3, [.ref a_i_bytes, .int i_filled, .int i_length, .int i_kind, .int i_start, .int i_stop, .int i_value, .int i_errorCode, .int i_errorStart]))] H := hP
  have hD : va_D A [(a_i_bytes, .inl (cI, 800, .inl i_bytes)), (a_i, .inr (3, [.ref a_i_bytes, .int i_filled, .int i_length, .int i_kind, .int i_start, .int i_stop, .int i_value, .int i_errorCode, .int i_errorStart]))] := hD
  refine lv_if_ne (tgt := 8) hx hb dX3_advance_4 (by decide) (fun h9 => ?_) (fun h9 => ?_)
  · have hf := ctt (bI_1 h9) hf
    refine lv_aload_n hx hb dX3_advance_8 rfl (lv_at hl 0 rfl) ?_
    refine lv_aload_n hx hb dX3_advance_9 rfl (lv_at hl 0 rfl) ?_
    refine va_get (D := (dC, dI)) (ci := 3) (v := .int i_stop) (C := RX3) (T := TX3) (N := 9) hx hb htg inX3 hown hE.1 hP 1 rfl rfl 5 (by decide) (htg _ tw44) (fun _ h9 => h9) rfl dX3_advance_10 ?_
    refine va_put (D := (dC, dI)) (ci := 3) (v := .int i_stop) (ty := .int) (C := RX3) (T := TX3) (N := 9) hx hb htg inX3 tyX3 tyX3_ok nmX3 hown hE.1 hP hD hS 1 rfl rfl 4 (by decide) (htg _ tw43) (fun _ h9 => h9) rfl (by decide +kernel) rfl rfl (Nat.le_of_ble_eq_true rfl) dX3_advance_13 (fun H locs hP hD hS => ?_)
    have hP : va_P (dC, dI) vwCl [(a_i_bytes, .inl (cI, 800, .inl i_bytes)), (a_i, .inr (3, [.ref a_i_bytes, .int i_filled, .int i_length, .int i_kind, .int i_stop, .int i_stop, .int i_value, .int i_errorCode, .int i_errorStart]))] H := hP
    have hD : va_D A [(a_i_bytes, .inl (cI, 800, .inl i_bytes)), (a_i, .inr (3, [.ref a_i_bytes, .int i_filled, .int i_length, .int i_kind, .int i_stop, .int i_stop, .int i_value, .int i_errorCode, .int i_errorStart]))] := hD
    have K16 : ∀ (n16 : Nat) (i_start_16 : Int32) (ex16 : Int32) (H : Heap) (locs : List Loc) (ls : Array Slot), p3_advance_L16 i_bytes i_length n16 i_start_16 = some ex16 → (fun i_start_x16 => p3_advance_J58 i_bytes i_length i_start_x16) ex16 = some (i_kind_9, i_start_9, i_stop_9, i_value_9) → va_P (dC, dI) vwCl [(a_i, .inr (3, [.ref a_i_bytes, .int i_filled, .int i_length, .int i_kind, .int i_start_16, .int i_stop, .int i_value, .int i_errorCode, .int i_errorStart])), (a_i_bytes, .inl (cI, 800, .inl i_bytes))] H → va_D A [(a_i, .inr (3, [.ref a_i_bytes, .int i_filled, .int i_length, .int i_kind, .int i_start_16, .int i_stop, .int i_value, .int i_errorCode, .int i_errorStart])), (a_i_bytes, .inl (cI, 800, .inl i_bytes))] → va_S A s.heap H locs → lv_has ls 1 [(0, .ref a_i)] → W p l e ({ frames := 1, cells := 0, slots := 0, locals := 21 }) s m ([.ref a_i] : List Value).toArray below meth c H locs 0 0 (MQ below (gQ dC dI none A [(a_i, .inr (3, [.ref a_i_bytes, .int i_filled, .int i_length, .int i_kind_9, .int i_start_9, .int i_stop_9, .int i_value_9, .int i_errorCode, .int i_errorStart])), (a_i_bytes, .inl (cI, 800, .inl i_bytes))]) ([.ref a_i] : List Value).toArray s 0 0 A) (F0 m 16 ls []) := by
      intro n16
      induction n16 with
      | zero => intro i_start_16 ex16 H locs ls hf; rw [p3_advance_L16] at hf; cases hf
      | succ n16 ih16 =>
        intro i_start_16 ex16 H locs ls hf hk16 hP hD hS hl
        rw [p3_advance_L16, p3_advance_L16_B] at hf
        refine lv_aload_n hx hb dX3_advance_16 rfl (lv_at hl 0 rfl) ?_
        refine va_get (D := (dC, dI)) (ci := 3) (v := .int i_start_16) (C := RX3) (T := TX3) (N := 9) hx hb htg inX3 hown hE.1 hP 0 rfl rfl 4 (by decide) (htg _ tw43) (fun _ h9 => h9) rfl dX3_advance_17 ?_
        refine lv_aload_n hx hb dX3_advance_20 rfl (lv_at hl 0 rfl) ?_
        refine va_get (D := (dC, dI)) (ci := 3) (v := .int i_length) (C := RX3) (T := TX3) (N := 9) hx hb htg inX3 hown hE.1 hP 0 rfl rfl 2 (by decide) (htg _ tw40) (fun _ h9 => h9) rfl dX3_advance_21 ?_
        refine lv_icmp_ge (tgt := 58) hx hb dX3_advance_24 (by decide) (fun h9 => ?_) (fun h9 => ?_)
        · have hf := itt h9 hf
          cases hf
          have hf := hk16
          exact J58 i_start_16 H locs ls hf hP hD hS (lv_sub hl [0] rfl)
        · have hf := itf h9 hf
          refine lv_aload_n hx hb dX3_advance_27 rfl (lv_at hl 0 rfl) ?_
          refine va_get (D := (dC, dI)) (ci := 3) (v := .ref a_i_bytes) (C := RX3) (T := TX3) (N := 9) hx hb htg inX3 hown hE.1 hP 0 rfl rfl 0 (by decide) (htg _ tw37) (fun _ h9 => h9) rfl dX3_advance_28 ?_
          refine lv_aload_n hx hb dX3_advance_31 rfl (lv_at hl 0 rfl) ?_
          refine va_get (D := (dC, dI)) (ci := 3) (v := .int i_start_16) (C := RX3) (T := TX3) (N := 9) hx hb htg inX3 hown hE.1 hP 0 rfl rfl 4 (by decide) (htg _ tw43) (fun _ h9 => h9) rfl dX3_advance_32 ?_
          refine gcSN (index := 45) (host := "FamilyChart") S hE (c_X9_at a_i_bytes i_bytes 800 (Nat.le_of_ble_eq_true rfl) i_start_16 (pAt 800 i_bytes i_start_16) rfl) mX9_at nw19 ⟨Nat.le_of_ble_eq_true rfl, Nat.le_of_ble_eq_true rfl⟩ hP hD hS hA ⟨Nat.zero_le _, Nat.zero_le _⟩ (wr := [(a_i, .inr (3, [.ref a_i_bytes, .int i_filled, .int i_length, .int i_kind, .int i_start_16, .int i_stop, .int i_value, .int i_errorCode, .int i_errorStart]))]) [1] [0] rfl rfl rfl rfl (by decide) (As := [.ref a_i_bytes, .int i_start_16]) (rest := []) rfl hl.1 rfl (Nat.le_of_ble_eq_true rfl) dX3_advance_35 (fun H locs hP hD hS => ?_)
          refine W.eq (g2 := F0 m 38 ls [.int (pAt 800 i_bytes i_start_16)]) rfl ?_
          have hP : va_P (dC, dI) vwCl [(a_i, .inr (3, [.ref a_i_bytes, .int i_filled, .int i_length, .int i_kind, .int i_start_16, .int i_stop, .int i_value, .int i_errorCode, .int i_errorStart])), (a_i_bytes, .inl (cI, 800, .inl i_bytes))] H := hP
          have hD : va_D A [(a_i, .inr (3, [.ref a_i_bytes, .int i_filled, .int i_length, .int i_kind, .int i_start_16, .int i_stop, .int i_value, .int i_errorCode, .int i_errorStart])), (a_i_bytes, .inl (cI, 800, .inl i_bytes))] := hD
          refine gcS (index := 49) S hE (c_X3_kindOf (pAt 800 i_bytes i_start_16) (p3_kindOf (pAt 800 i_bytes i_start_16)) rfl) mX3_kindOf tw806 ⟨Nat.le_of_ble_eq_true rfl, Nat.le_of_ble_eq_true rfl⟩ hP hD hS hA ⟨Nat.zero_le _, Nat.zero_le _⟩ (wr := [(a_i, .inr (3, [.ref a_i_bytes, .int i_filled, .int i_length, .int i_kind, .int i_start_16, .int i_stop, .int i_value, .int i_errorCode, .int i_errorStart])), (a_i_bytes, .inl (cI, 800, .inl i_bytes))]) [] [0, 1] rfl rfl rfl rfl (by decide) (As := [.int (pAt 800 i_bytes i_start_16)]) (rest := []) rfl hl.1 rfl (Nat.le_of_ble_eq_true rfl) dX3_advance_38 (fun H locs hP hD hS => ?_)
          refine W.eq (g2 := F0 m 41 ls [.int (p3_kindOf (pAt 800 i_bytes i_start_16))]) rfl ?_
          have hP : va_P (dC, dI) vwCl [(a_i, .inr (3, [.ref a_i_bytes, .int i_filled, .int i_length, .int i_kind, .int i_start_16, .int i_stop, .int i_value, .int i_errorCode, .int i_errorStart])), (a_i_bytes, .inl (cI, 800, .inl i_bytes))] H := hP
          have hD : va_D A [(a_i, .inr (3, [.ref a_i_bytes, .int i_filled, .int i_length, .int i_kind, .int i_start_16, .int i_stop, .int i_value, .int i_errorCode, .int i_errorStart])), (a_i_bytes, .inl (cI, 800, .inl i_bytes))] := hD
          refine lv_iconst (v := 4) hx hb dX3_advance_41 (by decide) ?_
          refine lv_icmp_ne (tgt := 58) hx hb dX3_advance_42 (by decide) (fun h9 => ?_) (fun h9 => ?_)
          · have hf := itf h9 hf
            cases hf
            have hf := hk16
            exact J58 i_start_16 H locs ls hf hP hD hS (lv_sub hl [0] rfl)
          · have hf := itt h9 hf
            refine lv_aload_n hx hb dX3_advance_45 rfl (lv_at hl 0 rfl) ?_
            refine lv_dup hx hb dX3_advance_46 rfl ?_
            refine va_get (D := (dC, dI)) (ci := 3) (v := .int i_start_16) (C := RX3) (T := TX3) (N := 9) hx hb htg inX3 hown hE.1 hP 0 rfl rfl 4 (by decide) (htg _ tw43) (fun _ h9 => h9) rfl dX3_advance_47 ?_
            refine lv_iconst (v := 1) hx hb dX3_advance_50 (by decide) ?_
            refine lv_iadd hx hb dX3_advance_51 ?_
            refine lv_topi (fun t52 h9 => ?_)
            have hf := lb_e h9 hf
            refine va_put (D := (dC, dI)) (ci := 3) (v := .int t52) (ty := .int) (C := RX3) (T := TX3) (N := 9) hx hb htg inX3 tyX3 tyX3_ok nmX3 hown hE.1 hP hD hS 0 rfl rfl 4 (by decide) (htg _ tw43) (fun _ h9 => h9) rfl (by decide +kernel) rfl rfl (Nat.le_of_ble_eq_true rfl) dX3_advance_52 (fun H locs hP hD hS => ?_)
            have hP : va_P (dC, dI) vwCl [(a_i, .inr (3, [.ref a_i_bytes, .int i_filled, .int i_length, .int i_kind, .int t52, .int i_stop, .int i_value, .int i_errorCode, .int i_errorStart])), (a_i_bytes, .inl (cI, 800, .inl i_bytes))] H := hP
            have hD : va_D A [(a_i, .inr (3, [.ref a_i_bytes, .int i_filled, .int i_length, .int i_kind, .int t52, .int i_stop, .int i_value, .int i_errorCode, .int i_errorStart])), (a_i_bytes, .inl (cI, 800, .inl i_bytes))] := hD
            refine lv_goto (tgt := 16) hx hb dX3_advance_55 (by decide) ?_
            exact ih16 t52 ex16 H locs ls hf hk16 hP hD hS (lv_sub hl [0] rfl)
    obtain ⟨ex, h9, hf⟩ := ob_s hf
    exact K16 FU i_stop ex H locs ls h9 hf (hP.sub [1, 0] rfl) (hD.sub [1, 0] (by decide) rfl) hS (lv_sub hl [0] rfl)
  · have hf := ctf (bI_0 h9) hf
    cases hf
    exact g_vret S hr hlocks (hP.sub [1, 0] rfl) (hD.sub [1, 0] (by decide) rfl) hS dX3_advance_7
set_option maxHeartbeats 4000000 in
set_option maxRecDepth 100000 in
theorem c_X3_open (a_i a_i_bytes : Nat) (i_filled : Int32) (i_length : Int32) (i_kind : Int32) (i_start : Int32) (i_stop : Int32) (i_value : Int32) (i_errorCode : Int32) (i_errorStart : Int32) (i_bytes : Nat → Int32) (v1 : Int32) (i_errorCode_9 : Int32) (i_errorStart_9 : Int32) (i_filled_9 : Int32) (i_kind_9 : Int32) (i_length_9 : Int32) (i_start_9 : Int32) (i_stop_9 : Int32) (i_value_9 : Int32) (hf : p3_open i_kind i_start i_value i_bytes v1 = some (i_errorCode_9, i_errorStart_9, i_filled_9, i_kind_9, i_length_9, i_start_9, i_stop_9, i_value_9)) : gM l dC dI cI cJ cZ cK yX3_open cX3_open 2 none (2) (41) [.ref a_i, .int v1] [(a_i, .inr (3, [.ref a_i_bytes, .int i_filled, .int i_length, .int i_kind, .int i_start, .int i_stop, .int i_value, .int i_errorCode, .int i_errorStart])), (a_i_bytes, .inl (cI, 800, .inl i_bytes))] [(a_i, .inr (3, [.ref a_i_bytes, .int i_filled_9, .int i_length_9, .int i_kind_9, .int i_start_9, .int i_stop_9, .int i_value_9, .int i_errorCode_9, .int i_errorStart_9])), (a_i_bytes, .inl (cI, 800, .inl i_bytes))] none := by
  refine g_start (own := RX3) (by decide +kernel) rfl (Nat.le_of_ble_eq_true rfl) ?_
  intro p e s m below meth c A ls S hr hlocks hE hP hD hS hA hl hin
  have hx := S.1
  have hb := S.2.1
  have hml := S.2.2.1
  have hown := S.2.2.2.1
  have htg : ∀ z ∈ gw, z.before ([.ref a_i, .int v1] : List Value).toArray s = true := fun w h => S.2.2.2.2 w (List.mem_cons_of_mem _ h)
  have hl : lv_has ls 2 [(0, .ref a_i), (1, .int v1)] := hl
  have hS0 := hS
  obtain ⟨H, hH⟩ : ∃ H, H = s.heap := ⟨_, rfl⟩
  obtain ⟨locs, hlc⟩ : ∃ locs : List Loc, locs = [] := ⟨_, rfl⟩
  have hS : va_S A s.heap H locs := by rw [hH, hlc]; exact hS0
  have hP : va_P (dC, dI) vwCl [(a_i, .inr (3, [.ref a_i_bytes, .int i_filled, .int i_length, .int i_kind, .int i_start, .int i_stop, .int i_value, .int i_errorCode, .int i_errorStart])), (a_i_bytes, .inl (cI, 800, .inl i_bytes))] H := by rw [hH]; exact hP
  suffices hgo : W p l e ({ frames := 2, cells := 0, slots := 0, locals := 41 }) s m ([.ref a_i, .int v1] : List Value).toArray below meth c H locs 0 0 (MQ below (gQ dC dI none A [(a_i, .inr (3, [.ref a_i_bytes, .int i_filled_9, .int i_length_9, .int i_kind_9, .int i_start_9, .int i_stop_9, .int i_value_9, .int i_errorCode_9, .int i_errorStart_9])), (a_i_bytes, .inl (cI, 800, .inl i_bytes))]) ([.ref a_i, .int v1] : List Value).toArray s 0 0 A) (F0 m 0 ls []) by rw [hH, hlc] at hgo; exact hgo
  rw [p3_open] at hf
  refine lv_aload_n hx hb dX3_open_0 rfl (lv_at hl 0 rfl) ?_
  refine lv_iload_n hx hb dX3_open_1 rfl (lv_at hl 1 rfl) ?_
  refine va_put (D := (dC, dI)) (ci := 3) (v := .int v1) (ty := .int) (C := RX3) (T := TX3) (N := 9) hx hb htg inX3 tyX3 tyX3_ok nmX3 hown hE.1 hP hD hS 0 rfl rfl 2 (by decide) (htg _ tw40) (fun _ h9 => h9) rfl (by decide +kernel) rfl rfl (Nat.le_of_ble_eq_true rfl) dX3_open_2 (fun H locs hP hD hS => ?_)
  have hP : va_P (dC, dI) vwCl [(a_i, .inr (3, [.ref a_i_bytes, .int i_filled, .int v1, .int i_kind, .int i_start, .int i_stop, .int i_value, .int i_errorCode, .int i_errorStart])), (a_i_bytes, .inl (cI, 800, .inl i_bytes))] H := hP
  have hD : va_D A [(a_i, .inr (3, [.ref a_i_bytes, .int i_filled, .int v1, .int i_kind, .int i_start, .int i_stop, .int i_value, .int i_errorCode, .int i_errorStart])), (a_i_bytes, .inl (cI, 800, .inl i_bytes))] := hD
  refine lv_aload_n hx hb dX3_open_5 rfl (lv_at hl 0 rfl) ?_
  refine lv_iconst (v := 0) hx hb dX3_open_6 (by decide) ?_
  refine va_put (D := (dC, dI)) (ci := 3) (v := .int (0 : Int32)) (ty := .int) (C := RX3) (T := TX3) (N := 9) hx hb htg inX3 tyX3 tyX3_ok nmX3 hown hE.1 hP hD hS 0 rfl rfl 1 (by decide) (htg _ tw38) (fun _ h9 => h9) rfl (by decide +kernel) rfl rfl (Nat.le_of_ble_eq_true rfl) dX3_open_7 (fun H locs hP hD hS => ?_)
  have hP : va_P (dC, dI) vwCl [(a_i, .inr (3, [.ref a_i_bytes, .int (0 : Int32), .int v1, .int i_kind, .int i_start, .int i_stop, .int i_value, .int i_errorCode, .int i_errorStart])), (a_i_bytes, .inl (cI, 800, .inl i_bytes))] H := hP
  have hD : va_D A [(a_i, .inr (3, [.ref a_i_bytes, .int (0 : Int32), .int v1, .int i_kind, .int i_start, .int i_stop, .int i_value, .int i_errorCode, .int i_errorStart])), (a_i_bytes, .inl (cI, 800, .inl i_bytes))] := hD
  refine lv_aload_n hx hb dX3_open_10 rfl (lv_at hl 0 rfl) ?_
  refine lv_iconst (v := 0) hx hb dX3_open_11 (by decide) ?_
  refine va_put (D := (dC, dI)) (ci := 3) (v := .int (0 : Int32)) (ty := .int) (C := RX3) (T := TX3) (N := 9) hx hb htg inX3 tyX3 tyX3_ok nmX3 hown hE.1 hP hD hS 0 rfl rfl 5 (by decide) (htg _ tw44) (fun _ h9 => h9) rfl (by decide +kernel) rfl rfl (Nat.le_of_ble_eq_true rfl) dX3_open_12 (fun H locs hP hD hS => ?_)
  have hP : va_P (dC, dI) vwCl [(a_i, .inr (3, [.ref a_i_bytes, .int (0 : Int32), .int v1, .int i_kind, .int i_start, .int (0 : Int32), .int i_value, .int i_errorCode, .int i_errorStart])), (a_i_bytes, .inl (cI, 800, .inl i_bytes))] H := hP
  have hD : va_D A [(a_i, .inr (3, [.ref a_i_bytes, .int (0 : Int32), .int v1, .int i_kind, .int i_start, .int (0 : Int32), .int i_value, .int i_errorCode, .int i_errorStart])), (a_i_bytes, .inl (cI, 800, .inl i_bytes))] := hD
  refine lv_aload_n hx hb dX3_open_15 rfl (lv_at hl 0 rfl) ?_
  refine lv_iconst (v := 0) hx hb dX3_open_16 (by decide) ?_
  refine va_put (D := (dC, dI)) (ci := 3) (v := .int (0 : Int32)) (ty := .int) (C := RX3) (T := TX3) (N := 9) hx hb htg inX3 tyX3 tyX3_ok nmX3 hown hE.1 hP hD hS 0 rfl rfl 7 (by decide) (htg _ tw48) (fun _ h9 => h9) rfl (by decide +kernel) rfl rfl (Nat.le_of_ble_eq_true rfl) dX3_open_17 (fun H locs hP hD hS => ?_)
  have hP : va_P (dC, dI) vwCl [(a_i, .inr (3, [.ref a_i_bytes, .int (0 : Int32), .int v1, .int i_kind, .int i_start, .int (0 : Int32), .int i_value, .int (0 : Int32), .int i_errorStart])), (a_i_bytes, .inl (cI, 800, .inl i_bytes))] H := hP
  have hD : va_D A [(a_i, .inr (3, [.ref a_i_bytes, .int (0 : Int32), .int v1, .int i_kind, .int i_start, .int (0 : Int32), .int i_value, .int (0 : Int32), .int i_errorStart])), (a_i_bytes, .inl (cI, 800, .inl i_bytes))] := hD
  refine lv_aload_n hx hb dX3_open_20 rfl (lv_at hl 0 rfl) ?_
  refine lv_iconst (v := -1) hx hb dX3_open_21 (by decide) ?_
  refine va_put (D := (dC, dI)) (ci := 3) (v := .int (-1 : Int32)) (ty := .int) (C := RX3) (T := TX3) (N := 9) hx hb htg inX3 tyX3 tyX3_ok nmX3 hown hE.1 hP hD hS 0 rfl rfl 8 (by decide) (htg _ tw49) (fun _ h9 => h9) rfl (by decide +kernel) rfl rfl (Nat.le_of_ble_eq_true rfl) dX3_open_22 (fun H locs hP hD hS => ?_)
  have hP : va_P (dC, dI) vwCl [(a_i, .inr (3, [.ref a_i_bytes, .int (0 : Int32), .int v1, .int i_kind, .int i_start, .int (0 : Int32), .int i_value, .int (0 : Int32), .int (-1 : Int32)])), (a_i_bytes, .inl (cI, 800, .inl i_bytes))] H := hP
  have hD : va_D A [(a_i, .inr (3, [.ref a_i_bytes, .int (0 : Int32), .int v1, .int i_kind, .int i_start, .int (0 : Int32), .int i_value, .int (0 : Int32), .int (-1 : Int32)])), (a_i_bytes, .inl (cI, 800, .inl i_bytes))] := hD
  refine lv_aload_n hx hb dX3_open_25 rfl (lv_at hl 0 rfl) ?_
  obtain ⟨⟨i_kind_26, i_start_26, i_stop_26, i_value_26⟩, h9, hf⟩ := ob_s hf
  have hf := uc4_e hf
  refine gcV (index := 35) S hE (c_X3_advance a_i a_i_bytes (0 : Int32) v1 i_kind i_start (0 : Int32) i_value (0 : Int32) (-1 : Int32) i_bytes i_kind_26 i_start_26 i_stop_26 i_value_26 h9) mX3_advance tw797 ⟨Nat.le_of_ble_eq_true rfl, Nat.le_of_ble_eq_true rfl⟩ hP hD hS hA ⟨Nat.zero_le _, Nat.zero_le _⟩ 0 3 rfl rfl rfl (wr := []) [0, 1] [] rfl rfl rfl rfl (by decide) (As := []) (rest := []) rfl hl.1 rfl (Nat.le_of_ble_eq_true rfl) dX3_open_26 (fun H locs hP hD hS => ?_)
  refine W.eq (g2 := F0 m 29 ls []) rfl ?_
  have hP : va_P (dC, dI) vwCl [(a_i, .inr (3, [.ref a_i_bytes, .int (0 : Int32), .int v1, .int i_kind_26, .int i_start_26, .int i_stop_26, .int i_value_26, .int (0 : Int32), .int (-1 : Int32)])), (a_i_bytes, .inl (cI, 800, .inl i_bytes))] H := hP
  have hD : va_D A [(a_i, .inr (3, [.ref a_i_bytes, .int (0 : Int32), .int v1, .int i_kind_26, .int i_start_26, .int i_stop_26, .int i_value_26, .int (0 : Int32), .int (-1 : Int32)])), (a_i_bytes, .inl (cI, 800, .inl i_bytes))] := hD
  cases hf
  exact g_vret S hr hlocks hP hD hS dX3_open_29
end G_21_Input
