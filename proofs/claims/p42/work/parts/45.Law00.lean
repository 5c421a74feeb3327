section G_45_Law00
variable {l : Launch} {dC : Nat → ClassId} {dI : Nat → Nat → Nat} {cI cJ cZ cK : ClassId} {adK adV : Nat → Nat}
set_option maxHeartbeats 4000000 in
set_option maxRecDepth 100000 in
theorem c_L_most (v0 : Int32) (v1 : Int32) (r9 : Int32) (hf : pL_most v0 v1 = some r9) : gXM l dC dI cI cJ cZ cK adK adV yL_most cL_most 2 (some .int) (0) (0) 0 0 [.int v0, .int v1] ([] ++ []) (fun _ : EX => ([] ++ [])) (fun _ => some (.int r9)) := by
  refine g_startX (own := RL) (by decide +kernel) rfl (Nat.le_of_ble_eq_true rfl) ?_
  intro p e s m below meth c A ls S hr hlocks hE hG hP hD hS hA hl hin
  have hFU : FU = 1024 := rfl
  have hx := S.1
  have hb := S.2.1
  have hml := S.2.2.1
  have hown := S.2.2.2.1
  have htg : ∀ z ∈ gw, z.before ([.int v0, .int v1] : List Value).toArray s = true := fun w h => S.2.2.2.2 w (List.mem_cons_of_mem _ h)
  have hl : lv_has ls 2 [(0, .int v0), (1, .int v1)] := hl
  have hS0 := hS
  obtain ⟨H, hH⟩ : ∃ H, H = s.heap := ⟨_, rfl⟩
  obtain ⟨locs, hlc⟩ : ∃ locs : List Loc, locs = [] := ⟨_, rfl⟩
  have hS : va_S A s.heap H locs := by rw [hH, hlc]; exact hS0
  have hP : va_P (dC, dI) vwCl ([] ++ []) H := by rw [hH]; exact hP
  suffices hgo : W p l e ({ frames := 0, cells := 0, slots := 0, locals := 0 }) s m ([.int v0, .int v1] : List Value).toArray below meth c H locs 0 0 (MQ below (gXQ dC dI (fun _ => some (.int r9)) A (fun _ : EX => ([] ++ []))) ([.int v0, .int v1] : List Value).toArray s 0 0 A) (F0 m 0 ls []) by rw [hH, hlc] at hgo; exact hgo
  rw [pL_most] at hf
  refine lv_iload_n hx hb dL_most_0 rfl (lv_at hl 0 rfl) ?_
  refine lv_ldc (own := RL) (v := 2147483647) hx hb hown (htg _ tw525) dL_most_1 ?_
  refine lv_iand hx hb dL_most_3 ?_
  refine lv_iload_n hx hb dL_most_4 rfl (lv_at hl 1 rfl) ?_
  obtain ⟨h9, hf⟩ := gz_s hf
  refine lv_irem hx hb dL_most_5 h9 ?_
  cases hf
  exact g_iretX S hr hlocks (adV, fun _ => none, fun _ _ => 0) hP hD hS (Nat.le_refl _) (Nat.le_refl _) dL_most_6
set_option maxHeartbeats 4000000 in
set_option maxRecDepth 100000 in
theorem c_L_cell (v1 : Int32) (r9 : Int32) (hf : pL_cell adV v1 = some r9) : gXM l dC dI cI cJ cZ cK adK adV yL_cell cL_cell 2 (some .int) (0) (0) 0 0 [.ref (adV 20), .int v1] ([] ++ []) (fun _ : EX => ([] ++ [])) (fun _ => some (.int r9)) := by
  refine g_startX (own := RL) (by decide +kernel) rfl (Nat.le_of_ble_eq_true rfl) ?_
  intro p e s m below meth c A ls S hr hlocks hE hG hP hD hS hA hl hin
  have hFU : FU = 1024 := rfl
  have hx := S.1
  have hb := S.2.1
  have hml := S.2.2.1
  have hown := S.2.2.2.1
  have htg : ∀ z ∈ gw, z.before ([.ref (adV 20), .int v1] : List Value).toArray s = true := fun w h => S.2.2.2.2 w (List.mem_cons_of_mem _ h)
  have hl : lv_has ls 2 [(0, .ref (adV 20)), (1, .int v1)] := hl
  have hS0 := hS
  obtain ⟨H, hH⟩ : ∃ H, H = s.heap := ⟨_, rfl⟩
  obtain ⟨locs, hlc⟩ : ∃ locs : List Loc, locs = [] := ⟨_, rfl⟩
  have hS : va_S A s.heap H locs := by rw [hH, hlc]; exact hS0
  have hP : va_P (dC, dI) vwCl ([] ++ []) H := by rw [hH]; exact hP
  suffices hgo : W p l e ({ frames := 0, cells := 0, slots := 0, locals := 0 }) s m ([.ref (adV 20), .int v1] : List Value).toArray below meth c H locs 0 0 (MQ below (gXQ dC dI (fun _ => some (.int r9)) A (fun _ : EX => ([] ++ []))) ([.ref (adV 20), .int v1] : List Value).toArray s 0 0 A) (F0 m 0 ls []) by rw [hH, hlc] at hgo; exact hgo
  rw [pL_cell] at hf
  refine lv_iload_n hx hb dL_cell_0 rfl (lv_at hl 1 rfl) ?_
  refine lv_aload_n hx hb dL_cell_1 rfl (lv_at hl 0 rfl) ?_
  refine va_tlen (v := (Int32.ofNat (adV 21))) hx hb hG.1.1 hS rfl dL_cell_2 ?_
  refine lv_icmp_ge (tgt := 12) hx hb dL_cell_3 (by decide) (fun h9 => ?_) (fun h9 => ?_)
  · have hf := itt h9 hf
    refine lv_bipush (v := 37) hx hb dL_cell_12 (by decide) ?_
    refine lv_iload_n hx hb dL_cell_14 rfl (lv_at hl 1 rfl) ?_
    refine lv_imul hx hb dL_cell_15 ?_
    cases hf
    exact g_iretX S hr hlocks (adV, fun _ => none, fun _ _ => 0) hP hD hS (Nat.le_refl _) (Nat.le_refl _) dL_cell_16
  · have hf := itf h9 hf
    refine lv_aload_n hx hb dL_cell_6 rfl (lv_at hl 0 rfl) ?_
    refine lv_iload_n hx hb dL_cell_7 rfl (lv_at hl 1 rfl) ?_
    obtain ⟨h9, hf⟩ := gd_s hf
    refine va_ti (v := .int (sX adV v1.toNatClampNeg)) hx hb hG.1.1 hS h9 rfl dL_cell_8 ?_
    refine lv_goto (tgt := 16) hx hb dL_cell_9 (by decide) ?_
    cases hf
    exact g_iretX S hr hlocks (adV, fun _ => none, fun _ _ => 0) hP hD hS (Nat.le_refl _) (Nat.le_refl _) dL_cell_16
set_option maxHeartbeats 4000000 in
set_option maxRecDepth 100000 in
theorem c_L_add (a_x a_i a_f a_e a_r a_c a_p a_h a_t a_q a_i_bytes a_p1 : Nat) (i_filled : Int32) (i_length : Int32) (i_kind : Int32) (i_start : Int32) (i_stop : Int32) (i_value : Int32) (i_errorCode : Int32) (i_errorStart : Int32) (i_bytes : Nat → Int32) (p1 : Nat → Int32) (n_p1 : Nat) (hn_p1 : n_p1 < 2147483648) (v2 : Int32) (i_bytes_9 : Nat → Int32) (i_filled_9 : Int32) (p1_9 : Nat → Int32) (hf : pL_add n_p1 i_filled i_bytes p1 v2 = some (i_bytes_9, i_filled_9, p1_9)) : gXM l dC dI cI cJ cZ cK adK adV yL_add cL_add 4 none (3) (69) 0 0 [.ref a_x, .ref a_p1, .int v2] ([(a_x, .inr (9, [.ref a_i, .ref a_f, .ref a_e, .ref a_r, .ref a_c, .ref a_p, .ref a_h, .ref a_t, .ref a_q])), (a_i, .inr (3, [.ref a_i_bytes, .int i_filled, .int i_length, .int i_kind, .int i_start, .int i_stop, .int i_value, .int i_errorCode, .int i_errorStart])), (a_i_bytes, .inl (cI, 800, .inl i_bytes)), (a_p1, .inl (cI, n_p1, .inl p1))] ++ []) (fun _ : EX => ([(a_x, .inr (9, [.ref a_i, .ref a_f, .ref a_e, .ref a_r, .ref a_c, .ref a_p, .ref a_h, .ref a_t, .ref a_q])), (a_i, .inr (3, [.ref a_i_bytes, .int i_filled_9, .int i_length, .int i_kind, .int i_start, .int i_stop, .int i_value, .int i_errorCode, .int i_errorStart])), (a_i_bytes, .inl (cI, 800, .inl i_bytes_9)), (a_p1, .inl (cI, n_p1, .inl p1_9))] ++ [])) (fun _ => none) := by
  refine g_startX (own := RL) (by decide +kernel) rfl (Nat.le_of_ble_eq_true rfl) ?_
  intro p e s m below meth c A ls S hr hlocks hE hG hP hD hS hA hl hin
  have hFU : FU = 1024 := rfl
  have hx := S.1
  have hb := S.2.1
  have hml := S.2.2.1
  have hown := S.2.2.2.1
  have htg : ∀ z ∈ gw, z.before ([.ref a_x, .ref a_p1, .int v2] : List Value).toArray s = true := fun w h => S.2.2.2.2 w (List.mem_cons_of_mem _ h)
  have hl : lv_has ls 4 [(0, .ref a_x), (1, .ref a_p1), (2, .int v2)] := hl
  have hS0 := hS
  obtain ⟨H, hH⟩ : ∃ H, H = s.heap := ⟨_, rfl⟩
  obtain ⟨locs, hlc⟩ : ∃ locs : List Loc, locs = [] := ⟨_, rfl⟩
  have hS : va_S A s.heap H locs := by rw [hH, hlc]; exact hS0
  have hP : va_P (dC, dI) vwCl ([(a_x, .inr (9, [.ref a_i, .ref a_f, .ref a_e, .ref a_r, .ref a_c, .ref a_p, .ref a_h, .ref a_t, .ref a_q])), (a_i, .inr (3, [.ref a_i_bytes, .int i_filled, .int i_length, .int i_kind, .int i_start, .int i_stop, .int i_value, .int i_errorCode, .int i_errorStart])), (a_i_bytes, .inl (cI, 800, .inl i_bytes)), (a_p1, .inl (cI, n_p1, .inl p1))] ++ []) H := by rw [hH]; exact hP
  suffices hgo : W p l e ({ frames := 3, cells := 0, slots := 0, locals := 69 }) s m ([.ref a_x, .ref a_p1, .int v2] : List Value).toArray below meth c H locs 0 0 (MQ below (gXQ dC dI (fun _ => none) A (fun _ : EX => ([(a_x, .inr (9, [.ref a_i, .ref a_f, .ref a_e, .ref a_r, .ref a_c, .ref a_p, .ref a_h, .ref a_t, .ref a_q])), (a_i, .inr (3, [.ref a_i_bytes, .int i_filled_9, .int i_length, .int i_kind, .int i_start, .int i_stop, .int i_value, .int i_errorCode, .int i_errorStart])), (a_i_bytes, .inl (cI, 800, .inl i_bytes_9)), (a_p1, .inl (cI, n_p1, .inl p1_9))] ++ []))) ([.ref a_x, .ref a_p1, .int v2] : List Value).toArray s 0 0 A) (F0 m 0 ls []) by rw [hH, hlc] at hgo; exact hgo
  rw [pL_add] at hf
  have J80 : ∀ (i_filled_80 : Int32) (i_bytes_80 : Nat → Int32) (p1_80 : Nat → Int32) (H : Heap) (locs : List Loc) (ls : Array Slot), pL_add_J80 i_filled_80 i_bytes_80 p1_80 = some (i_bytes_9, i_filled_9, p1_9) → va_P (dC, dI) vwCl ([(a_x, .inr (9, [.ref a_i, .ref a_f, .ref a_e, .ref a_r, .ref a_c, .ref a_p, .ref a_h, .ref a_t, .ref a_q])), (a_i, .inr (3, [.ref a_i_bytes, .int i_filled_80, .int i_length, .int i_kind, .int i_start, .int i_stop, .int i_value, .int i_errorCode, .int i_errorStart])), (a_i_bytes, .inl (cI, 800, .inl i_bytes_80)), (a_p1, .inl (cI, n_p1, .inl p1_80))] ++ []) H → va_D A ([(a_x, .inr (9, [.ref a_i, .ref a_f, .ref a_e, .ref a_r, .ref a_c, .ref a_p, .ref a_h, .ref a_t, .ref a_q])), (a_i, .inr (3, [.ref a_i_bytes, .int i_filled_80, .int i_length, .int i_kind, .int i_start, .int i_stop, .int i_value, .int i_errorCode, .int i_errorStart])), (a_i_bytes, .inl (cI, 800, .inl i_bytes_80)), (a_p1, .inl (cI, n_p1, .inl p1_80))] ++ []) → va_S A s.heap H locs → lv_has ls 4 [] → W p l e ({ frames := 3, cells := 0, slots := 0, locals := 69 }) s m ([.ref a_x, .ref a_p1, .int v2] : List Value).toArray below meth c H locs 0 0 (MQ below (gXQ dC dI (fun _ => none) A (fun _ : EX => ([(a_x, .inr (9, [.ref a_i, .ref a_f, .ref a_e, .ref a_r, .ref a_c, .ref a_p, .ref a_h, .ref a_t, .ref a_q])), (a_i, .inr (3, [.ref a_i_bytes, .int i_filled_9, .int i_length, .int i_kind, .int i_start, .int i_stop, .int i_value, .int i_errorCode, .int i_errorStart])), (a_i_bytes, .inl (cI, 800, .inl i_bytes_9)), (a_p1, .inl (cI, n_p1, .inl p1_9))] ++ []))) ([.ref a_x, .ref a_p1, .int v2] : List Value).toArray s 0 0 A) (F0 m 80 ls []) := by
    intro i_filled_80 i_bytes_80 p1_80 H locs ls hf hP hD hS hl
    rw [pL_add_J80] at hf
    cases hf
    exact g_vretX S hr hlocks (adV, fun _ => none, fun _ _ => 0) hP hD hS (Nat.le_refl _) (Nat.le_refl _) dL_add_80
  refine lv_aload_n hx hb dL_add_0 rfl (lv_at hl 1 rfl) ?_
  refine lv_aload_n hx hb dL_add_1 rfl (lv_at hl 1 rfl) ?_
  refine lv_iconst (v := 5) hx hb dL_add_2 (by decide) ?_
  obtain ⟨h9, hf⟩ := gd_s hf
  refine va_iald hx hb hE.1 hP 3 0 rfl rfl h9 dL_add_3 ?_
  refine lv_bipush (v := 20) hx hb dL_add_4 (by decide) ?_
  refine lv_irem hx hb dL_add_6 (by decide) ?_
  refine lv_iconst (v := 4) hx hb dL_add_7 (by decide) ?_
  refine lv_idiv hx hb dL_add_8 (by decide) ?_
  refine lv_dup2_11 hx hb dL_add_9 rfl rfl ?_
  obtain ⟨h9, hf⟩ := gd_s hf
  refine va_iald hx hb hE.1 hP 3 0 rfl rfl h9 dL_add_10 ?_
  refine lv_iload_n hx hb dL_add_11 rfl (lv_at hl 2 rfl) ?_
  refine lv_bipush (v := 24) hx hb dL_add_12 (by decide) ?_
  refine lv_bipush (v := 8) hx hb dL_add_14 (by decide) ?_
  refine lv_aload_n hx hb dL_add_16 rfl (lv_at hl 1 rfl) ?_
  refine lv_iconst (v := 5) hx hb dL_add_17 (by decide) ?_
  obtain ⟨h9, hf⟩ := gd_s hf
  refine va_iald hx hb hE.1 hP 3 0 rfl rfl h9 dL_add_18 ?_
  refine lv_iconst (v := 4) hx hb dL_add_19 (by decide) ?_
  refine lv_irem hx hb dL_add_20 (by decide) ?_
  refine lv_imul hx hb dL_add_21 ?_
  refine lv_isub hx hb dL_add_22 ?_
  refine lv_ishl hx hb dL_add_23 ?_
  refine lv_ior hx hb dL_add_24 ?_
  obtain ⟨h9, hf⟩ := gd_s hf
  refine va_iast hx hb hE.1 hP hD hS 3 0 rfl rfl h9 dL_add_25 (fun H locs hP hD hS => ?_)
  obtain ⟨g25, h9⟩ : ∃ z, z = (upd p1 (((p1 (5 : Int32).toNatClampNeg) - (p1 (5 : Int32).toNatClampNeg) / (20 : Int32) * (20 : Int32)) / (4 : Int32)).toNatClampNeg ((p1 (((p1 (5 : Int32).toNatClampNeg) - (p1 (5 : Int32).toNatClampNeg) / (20 : Int32) * (20 : Int32)) / (4 : Int32)).toNatClampNeg) ||| (v2 <<< (((24 : Int32) - ((8 : Int32) * ((p1 (5 : Int32).toNatClampNeg) - (p1 (5 : Int32).toNatClampNeg) / (4 : Int32) * (4 : Int32)))) &&& 31)))) := ⟨_, rfl⟩
  have hf := lb_e h9 hf
  have hP : va_P (dC, dI) vwCl ([(a_x, .inr (9, [.ref a_i, .ref a_f, .ref a_e, .ref a_r, .ref a_c, .ref a_p, .ref a_h, .ref a_t, .ref a_q])), (a_i, .inr (3, [.ref a_i_bytes, .int i_filled, .int i_length, .int i_kind, .int i_start, .int i_stop, .int i_value, .int i_errorCode, .int i_errorStart])), (a_i_bytes, .inl (cI, 800, .inl i_bytes)), (a_p1, .inl (cI, n_p1, .inl g25))] ++ []) H := by rw [h9]; exact hP
  have hD : va_D A ([(a_x, .inr (9, [.ref a_i, .ref a_f, .ref a_e, .ref a_r, .ref a_c, .ref a_p, .ref a_h, .ref a_t, .ref a_q])), (a_i, .inr (3, [.ref a_i_bytes, .int i_filled, .int i_length, .int i_kind, .int i_start, .int i_stop, .int i_value, .int i_errorCode, .int i_errorStart])), (a_i_bytes, .inl (cI, 800, .inl i_bytes)), (a_p1, .inl (cI, n_p1, .inl g25))] ++ []) := by rw [h9]; exact hD
  refine lv_aload_n hx hb dL_add_26 rfl (lv_at hl 1 rfl) ?_
  refine lv_iconst (v := 5) hx hb dL_add_27 (by decide) ?_
  refine lv_dup2_11 hx hb dL_add_28 rfl rfl ?_
  obtain ⟨h9, hf⟩ := gd_s hf
  refine va_iald hx hb hE.1 hP 3 0 rfl rfl h9 dL_add_29 ?_
  refine lv_iconst (v := 1) hx hb dL_add_30 (by decide) ?_
  refine lv_iadd hx hb dL_add_31 ?_
  obtain ⟨h9, hf⟩ := gd_s hf
  refine va_iast hx hb hE.1 hP hD hS 3 0 rfl rfl h9 dL_add_32 (fun H locs hP hD hS => ?_)
  obtain ⟨g32, h9⟩ : ∃ z, z = (upd g25 (5 : Int32).toNatClampNeg ((g25 (5 : Int32).toNatClampNeg) + (1 : Int32))) := ⟨_, rfl⟩
  have hf := lb_e h9 hf
  have hP : va_P (dC, dI) vwCl ([(a_x, .inr (9, [.ref a_i, .ref a_f, .ref a_e, .ref a_r, .ref a_c, .ref a_p, .ref a_h, .ref a_t, .ref a_q])), (a_i, .inr (3, [.ref a_i_bytes, .int i_filled, .int i_length, .int i_kind, .int i_start, .int i_stop, .int i_value, .int i_errorCode, .int i_errorStart])), (a_i_bytes, .inl (cI, 800, .inl i_bytes)), (a_p1, .inl (cI, n_p1, .inl g32))] ++ []) H := by rw [h9]; exact hP
  have hD : va_D A ([(a_x, .inr (9, [.ref a_i, .ref a_f, .ref a_e, .ref a_r, .ref a_c, .ref a_p, .ref a_h, .ref a_t, .ref a_q])), (a_i, .inr (3, [.ref a_i_bytes, .int i_filled, .int i_length, .int i_kind, .int i_start, .int i_stop, .int i_value, .int i_errorCode, .int i_errorStart])), (a_i_bytes, .inl (cI, 800, .inl i_bytes)), (a_p1, .inl (cI, n_p1, .inl g32))] ++ []) := by rw [h9]; exact hD
  refine lv_aload_n hx hb dL_add_33 rfl (lv_at hl 1 rfl) ?_
  refine lv_iconst (v := 5) hx hb dL_add_34 (by decide) ?_
  obtain ⟨h9, hf⟩ := gd_s hf
  refine va_iald hx hb hE.1 hP 3 0 rfl rfl h9 dL_add_35 ?_
  refine lv_bipush (v := 20) hx hb dL_add_36 (by decide) ?_
  refine lv_irem hx hb dL_add_38 (by decide) ?_
  refine lv_if_eq (tgt := 43) hx hb dL_add_39 (by decide) (fun h9 => ?_) (fun h9 => ?_)
  · have hf := itt h9 hf
    refine lv_aload_n hx hb dL_add_43 rfl (lv_at hl 0 rfl) ?_
    refine lv_aload_n hx hb dL_add_44 rfl (lv_at hl 1 rfl) ?_
    refine lv_iconst (v := 0) hx hb dL_add_45 (by decide) ?_
    obtain ⟨h9, hf⟩ := gd_s hf
    refine va_iald hx hb hE.1 hP 3 0 rfl rfl h9 dL_add_46 ?_
    refine lv_aload_n hx hb dL_add_47 rfl (lv_at hl 1 rfl) ?_
    refine lv_iconst (v := 1) hx hb dL_add_48 (by decide) ?_
    obtain ⟨h9, hf⟩ := gd_s hf
    refine va_iald hx hb hE.1 hP 3 0 rfl rfl h9 dL_add_49 ?_
    refine lv_aload_n hx hb dL_add_50 rfl (lv_at hl 1 rfl) ?_
    refine lv_iconst (v := 2) hx hb dL_add_51 (by decide) ?_
    obtain ⟨h9, hf⟩ := gd_s hf
    refine va_iald hx hb hE.1 hP 3 0 rfl rfl h9 dL_add_52 ?_
    refine lv_aload_n hx hb dL_add_53 rfl (lv_at hl 1 rfl) ?_
    refine lv_iconst (v := 3) hx hb dL_add_54 (by decide) ?_
    obtain ⟨h9, hf⟩ := gd_s hf
    refine va_iald hx hb hE.1 hP 3 0 rfl rfl h9 dL_add_55 ?_
    refine lv_aload_n hx hb dL_add_56 rfl (lv_at hl 1 rfl) ?_
    refine lv_iconst (v := 4) hx hb dL_add_57 (by decide) ?_
    obtain ⟨h9, hf⟩ := gd_s hf
    refine va_iald hx hb hE.1 hP 3 0 rfl rfl h9 dL_add_58 ?_
    obtain ⟨⟨r59, i_bytes_59, i_filled_59⟩, h9, hf⟩ := ob_s hf
    have hf := uc3_e hf
    refine gxVQ (index := 8) S htg hE hG (gX_M (c_X9_feed a_x a_i a_f a_e a_r a_c a_p a_h a_t a_q a_i_bytes i_filled i_length i_kind i_start i_stop i_value i_errorCode i_errorStart i_bytes (g32 (0 : Int32).toNatClampNeg) (g32 (1 : Int32).toNatClampNeg) (g32 (2 : Int32).toNatClampNeg) (g32 (3 : Int32).toNatClampNeg) (g32 (4 : Int32).toNatClampNeg) r59 i_bytes_59 i_filled_59 h9)) mX9_feed tw682 ⟨Nat.le_of_ble_eq_true rfl, Nat.le_of_ble_eq_true rfl⟩ hP hD hS hA ⟨Nat.zero_le _, Nat.zero_le _⟩ 0 9 rfl rfl rfl (X := [(a_x, .inr (9, [.ref a_i, .ref a_f, .ref a_e, .ref a_r, .ref a_c, .ref a_p, .ref a_h, .ref a_t, .ref a_q])), (a_i, .inr (3, [.ref a_i_bytes, .int i_filled, .int i_length, .int i_kind, .int i_start, .int i_stop, .int i_value, .int i_errorCode, .int i_errorStart])), (a_i_bytes, .inl (cI, 800, .inl i_bytes)), (a_p1, .inl (cI, n_p1, .inl g32))]) (cx := [(a_x, .inr (9, [.ref a_i, .ref a_f, .ref a_e, .ref a_r, .ref a_c, .ref a_p, .ref a_h, .ref a_t, .ref a_q])), (a_i, .inr (3, [.ref a_i_bytes, .int i_filled, .int i_length, .int i_kind, .int i_start, .int i_stop, .int i_value, .int i_errorCode, .int i_errorStart])), (a_i_bytes, .inl (cI, 800, .inl i_bytes))]) (pl := []) (wr := [(a_p1, .inl (cI, n_p1, .inl g32))]) [0, 1, 2] [3] rfl rfl rfl rfl (by decide) (As := [.int (g32 (0 : Int32).toNatClampNeg), .int (g32 (1 : Int32).toNatClampNeg), .int (g32 (2 : Int32).toNatClampNeg), .int (g32 (3 : Int32).toNatClampNeg), .int (g32 (4 : Int32).toNatClampNeg)]) (rest := []) rfl hl.1 rfl (Nat.le_of_ble_eq_true rfl) dL_add_59 (fun H locs xx59 hP hD hS => ?_)
    refine W.eq (g2 := F0 m 62 ls [.int r59]) rfl ?_
    have hP : va_P (dC, dI) vwCl ([(a_p1, .inl (cI, n_p1, .inl g32)), (a_x, .inr (9, [.ref a_i, .ref a_f, .ref a_e, .ref a_r, .ref a_c, .ref a_p, .ref a_h, .ref a_t, .ref a_q])), (a_i, .inr (3, [.ref a_i_bytes, .int i_filled_59, .int i_length, .int i_kind, .int i_start, .int i_stop, .int i_value, .int i_errorCode, .int i_errorStart])), (a_i_bytes, .inl (cI, 800, .inl i_bytes_59))] ++ []) H := hP
    have hD : va_D A ([(a_p1, .inl (cI, n_p1, .inl g32)), (a_x, .inr (9, [.ref a_i, .ref a_f, .ref a_e, .ref a_r, .ref a_c, .ref a_p, .ref a_h, .ref a_t, .ref a_q])), (a_i, .inr (3, [.ref a_i_bytes, .int i_filled_59, .int i_length, .int i_kind, .int i_start, .int i_stop, .int i_value, .int i_errorCode, .int i_errorStart])), (a_i_bytes, .inl (cI, 800, .inl i_bytes_59))] ++ []) := hD
    refine lv_pop hx hb dL_add_62 rfl ?_
    refine lv_iconst (v := 0) hx hb dL_add_63 (by decide) ?_
    refine lv_istore_n (lv' := [(3, .int (0 : Int32)), (0, .ref a_x), (1, .ref a_p1), (2, .int v2)]) hx hb dL_add_64 rfl hl (by decide) rfl (fun ls hl => ?_)
    have K65 : ∀ (n65 : Nat) (v3_65 : Int32) (p1_65 : Nat → Int32) (ex65 : (Nat → Int32)) (H : Heap) (locs : List Loc) (ls : Array Slot), pL_add_L65 n_p1 n65 v3_65 p1_65 = some ex65 → (fun p1_x65 => pL_add_J80 i_filled_59 i_bytes_59 p1_x65) ex65 = some (i_bytes_9, i_filled_9, p1_9) → va_P (dC, dI) vwCl ([(a_x, .inr (9, [.ref a_i, .ref a_f, .ref a_e, .ref a_r, .ref a_c, .ref a_p, .ref a_h, .ref a_t, .ref a_q])), (a_i, .inr (3, [.ref a_i_bytes, .int i_filled_59, .int i_length, .int i_kind, .int i_start, .int i_stop, .int i_value, .int i_errorCode, .int i_errorStart])), (a_i_bytes, .inl (cI, 800, .inl i_bytes_59)), (a_p1, .inl (cI, n_p1, .inl p1_65))] ++ []) H → va_D A ([(a_x, .inr (9, [.ref a_i, .ref a_f, .ref a_e, .ref a_r, .ref a_c, .ref a_p, .ref a_h, .ref a_t, .ref a_q])), (a_i, .inr (3, [.ref a_i_bytes, .int i_filled_59, .int i_length, .int i_kind, .int i_start, .int i_stop, .int i_value, .int i_errorCode, .int i_errorStart])), (a_i_bytes, .inl (cI, 800, .inl i_bytes_59)), (a_p1, .inl (cI, n_p1, .inl p1_65))] ++ []) → va_S A s.heap H locs → lv_has ls 4 [(1, .ref a_p1), (3, .int v3_65)] → W p l e ({ frames := 3, cells := 0, slots := 0, locals := 69 }) s m ([.ref a_x, .ref a_p1, .int v2] : List Value).toArray below meth c H locs 0 0 (MQ below (gXQ dC dI (fun _ => none) A (fun _ : EX => ([(a_x, .inr (9, [.ref a_i, .ref a_f, .ref a_e, .ref a_r, .ref a_c, .ref a_p, .ref a_h, .ref a_t, .ref a_q])), (a_i, .inr (3, [.ref a_i_bytes, .int i_filled_9, .int i_length, .int i_kind, .int i_start, .int i_stop, .int i_value, .int i_errorCode, .int i_errorStart])), (a_i_bytes, .inl (cI, 800, .inl i_bytes_9)), (a_p1, .inl (cI, n_p1, .inl p1_9))] ++ []))) ([.ref a_x, .ref a_p1, .int v2] : List Value).toArray s 0 0 A) (F0 m 65 ls []) := by
      intro n65
      induction n65 with
      | zero => intro v3_65 p1_65 ex65 H locs ls hf; rw [pL_add_L65] at hf; cases hf
      | succ n65 ih65 =>
        intro v3_65 p1_65 ex65 H locs ls hf hk65 hP hD hS hl
        rw [pL_add_L65, pL_add_L65_B] at hf
        refine lv_iload_n hx hb dL_add_65 rfl (lv_at hl 1 rfl) ?_
        refine lv_iconst (v := 5) hx hb dL_add_66 (by decide) ?_
        refine lv_icmp_ge (tgt := 80) hx hb dL_add_67 (by decide) (fun h9 => ?_) (fun h9 => ?_)
        · have hf := itt h9 hf
          cases hf
          have hf := hk65
          exact J80 i_filled_59 i_bytes_59 p1_65 H locs ls hf hP hD hS (lv_sub hl [] rfl)
        · have hf := itf h9 hf
          refine lv_aload_n hx hb dL_add_70 rfl (lv_at hl 0 rfl) ?_
          refine lv_iload_n hx hb dL_add_71 rfl (lv_at hl 1 rfl) ?_
          refine lv_iconst (v := 0) hx hb dL_add_72 (by decide) ?_
          obtain ⟨h9, hf⟩ := gd_s hf
          refine va_iast hx hb hE.1 hP hD hS 3 0 rfl rfl h9 dL_add_73 (fun H locs hP hD hS => ?_)
          obtain ⟨g73, h9⟩ : ∃ z, z = (upd p1_65 v3_65.toNatClampNeg (0 : Int32)) := ⟨_, rfl⟩
          have hf := lb_e h9 hf
          have hP : va_P (dC, dI) vwCl ([(a_x, .inr (9, [.ref a_i, .ref a_f, .ref a_e, .ref a_r, .ref a_c, .ref a_p, .ref a_h, .ref a_t, .ref a_q])), (a_i, .inr (3, [.ref a_i_bytes, .int i_filled_59, .int i_length, .int i_kind, .int i_start, .int i_stop, .int i_value, .int i_errorCode, .int i_errorStart])), (a_i_bytes, .inl (cI, 800, .inl i_bytes_59)), (a_p1, .inl (cI, n_p1, .inl g73))] ++ []) H := by rw [h9]; exact hP
          have hD : va_D A ([(a_x, .inr (9, [.ref a_i, .ref a_f, .ref a_e, .ref a_r, .ref a_c, .ref a_p, .ref a_h, .ref a_t, .ref a_q])), (a_i, .inr (3, [.ref a_i_bytes, .int i_filled_59, .int i_length, .int i_kind, .int i_start, .int i_stop, .int i_value, .int i_errorCode, .int i_errorStart])), (a_i_bytes, .inl (cI, 800, .inl i_bytes_59)), (a_p1, .inl (cI, n_p1, .inl g73))] ++ []) := by rw [h9]; exact hD
          obtain ⟨t74, h9⟩ : ∃ z : Int32, z = (v3_65 + (1 : Int32)) := ⟨_, rfl⟩
          have hf := lb_e h9 hf
          refine lv_iinc (v := t74) (lv' := [(3, .int t74), (1, .ref a_p1)]) hx hb dL_add_74 hl (k := 1) rfl (by rw [h9]; rfl) (by decide) rfl (fun ls hl => ?_)
          refine lv_goto (tgt := 65) hx hb dL_add_77 (by decide) ?_
          exact ih65 t74 g73 ex65 H locs ls hf hk65 hP hD hS (lv_sub hl [1, 0] rfl)
    obtain ⟨ex, h9, hf⟩ := ob_s hf
    exact K65 FU (0 : Int32) g32 ex H locs ls h9 hf (hP.part [1, 2, 3, 0] rfl) (hD.part [1, 2, 3, 0] rfl rfl) hS (lv_sub hl [2, 0] rfl)
  · have hf := itf h9 hf
    cases hf
    exact g_vretX S hr hlocks (adV, fun _ => none, fun _ _ => 0) hP hD hS (Nat.le_refl _) (Nat.le_refl _) dL_add_42
set_option maxHeartbeats 4000000 in
set_option maxRecDepth 100000 in
theorem c_L_number (a_x a_i a_f a_e a_r a_c a_p a_h a_t a_q a_i_bytes a_p1 : Nat) (i_filled : Int32) (i_length : Int32) (i_kind : Int32) (i_start : Int32) (i_stop : Int32) (i_value : Int32) (i_errorCode : Int32) (i_errorStart : Int32) (i_bytes : Nat → Int32) (p1 : Nat → Int32) (n_p1 : Nat) (hn_p1 : n_p1 < 2147483648) (v2 : Int32) (i_bytes_9 : Nat → Int32) (i_filled_9 : Int32) (p1_9 : Nat → Int32) (hf : pL_number n_p1 i_filled i_bytes p1 v2 = some (i_bytes_9, i_filled_9, p1_9)) : gXM l dC dI cI cJ cZ cK adK adV yL_number cL_number 4 none (4) (92) 0 0 [.ref a_x, .ref a_p1, .int v2] ([(a_x, .inr (9, [.ref a_i, .ref a_f, .ref a_e, .ref a_r, .ref a_c, .ref a_p, .ref a_h, .ref a_t, .ref a_q])), (a_i, .inr (3, [.ref a_i_bytes, .int i_filled, .int i_length, .int i_kind, .int i_start, .int i_stop, .int i_value, .int i_errorCode, .int i_errorStart])), (a_i_bytes, .inl (cI, 800, .inl i_bytes)), (a_p1, .inl (cI, n_p1, .inl p1))] ++ []) (fun _ : EX => ([(a_x, .inr (9, [.ref a_i, .ref a_f, .ref a_e, .ref a_r, .ref a_c, .ref a_p, .ref a_h, .ref a_t, .ref a_q])), (a_i, .inr (3, [.ref a_i_bytes, .int i_filled_9, .int i_length, .int i_kind, .int i_start, .int i_stop, .int i_value, .int i_errorCode, .int i_errorStart])), (a_i_bytes, .inl (cI, 800, .inl i_bytes_9)), (a_p1, .inl (cI, n_p1, .inl p1_9))] ++ [])) (fun _ => none) := by
  refine g_startX (own := RL) (by decide +kernel) rfl (Nat.le_of_ble_eq_true rfl) ?_
  intro p e s m below meth c A ls S hr hlocks hE hG hP hD hS hA hl hin
  have hFU : FU = 1024 := rfl
  have hx := S.1
  have hb := S.2.1
  have hml := S.2.2.1
  have hown := S.2.2.2.1
  have htg : ∀ z ∈ gw, z.before ([.ref a_x, .ref a_p1, .int v2] : List Value).toArray s = true := fun w h => S.2.2.2.2 w (List.mem_cons_of_mem _ h)
  have hl : lv_has ls 4 [(0, .ref a_x), (1, .ref a_p1), (2, .int v2)] := hl
  have hS0 := hS
  obtain ⟨H, hH⟩ : ∃ H, H = s.heap := ⟨_, rfl⟩
  obtain ⟨locs, hlc⟩ : ∃ locs : List Loc, locs = [] := ⟨_, rfl⟩
  have hS : va_S A s.heap H locs := by rw [hH, hlc]; exact hS0
  have hP : va_P (dC, dI) vwCl ([(a_x, .inr (9, [.ref a_i, .ref a_f, .ref a_e, .ref a_r, .ref a_c, .ref a_p, .ref a_h, .ref a_t, .ref a_q])), (a_i, .inr (3, [.ref a_i_bytes, .int i_filled, .int i_length, .int i_kind, .int i_start, .int i_stop, .int i_value, .int i_errorCode, .int i_errorStart])), (a_i_bytes, .inl (cI, 800, .inl i_bytes)), (a_p1, .inl (cI, n_p1, .inl p1))] ++ []) H := by rw [hH]; exact hP
  suffices hgo : W p l e ({ frames := 4, cells := 0, slots := 0, locals := 92 }) s m ([.ref a_x, .ref a_p1, .int v2] : List Value).toArray below meth c H locs 0 0 (MQ below (gXQ dC dI (fun _ => none) A (fun _ : EX => ([(a_x, .inr (9, [.ref a_i, .ref a_f, .ref a_e, .ref a_r, .ref a_c, .ref a_p, .ref a_h, .ref a_t, .ref a_q])), (a_i, .inr (3, [.ref a_i_bytes, .int i_filled_9, .int i_length, .int i_kind, .int i_start, .int i_stop, .int i_value, .int i_errorCode, .int i_errorStart])), (a_i_bytes, .inl (cI, 800, .inl i_bytes_9)), (a_p1, .inl (cI, n_p1, .inl p1_9))] ++ []))) ([.ref a_x, .ref a_p1, .int v2] : List Value).toArray s 0 0 A) (F0 m 0 ls []) by rw [hH, hlc] at hgo; exact hgo
  rw [pL_number] at hf
  have J44 : ∀ (i_filled_44 : Int32) (i_bytes_44 : Nat → Int32) (p1_44 : Nat → Int32) (H : Heap) (locs : List Loc) (ls : Array Slot), pL_number_J44 i_filled_44 i_bytes_44 p1_44 = some (i_bytes_9, i_filled_9, p1_9) → va_P (dC, dI) vwCl ([(a_x, .inr (9, [.ref a_i, .ref a_f, .ref a_e, .ref a_r, .ref a_c, .ref a_p, .ref a_h, .ref a_t, .ref a_q])), (a_i, .inr (3, [.ref a_i_bytes, .int i_filled_44, .int i_length, .int i_kind, .int i_start, .int i_stop, .int i_value, .int i_errorCode, .int i_errorStart])), (a_i_bytes, .inl (cI, 800, .inl i_bytes_44)), (a_p1, .inl (cI, n_p1, .inl p1_44))] ++ []) H → va_D A ([(a_x, .inr (9, [.ref a_i, .ref a_f, .ref a_e, .ref a_r, .ref a_c, .ref a_p, .ref a_h, .ref a_t, .ref a_q])), (a_i, .inr (3, [.ref a_i_bytes, .int i_filled_44, .int i_length, .int i_kind, .int i_start, .int i_stop, .int i_value, .int i_errorCode, .int i_errorStart])), (a_i_bytes, .inl (cI, 800, .inl i_bytes_44)), (a_p1, .inl (cI, n_p1, .inl p1_44))] ++ []) → va_S A s.heap H locs → lv_has ls 4 [] → W p l e ({ frames := 4, cells := 0, slots := 0, locals := 92 }) s m ([.ref a_x, .ref a_p1, .int v2] : List Value).toArray below meth c H locs 0 0 (MQ below (gXQ dC dI (fun _ => none) A (fun _ : EX => ([(a_x, .inr (9, [.ref a_i, .ref a_f, .ref a_e, .ref a_r, .ref a_c, .ref a_p, .ref a_h, .ref a_t, .ref a_q])), (a_i, .inr (3, [.ref a_i_bytes, .int i_filled_9, .int i_length, .int i_kind, .int i_start, .int i_stop, .int i_value, .int i_errorCode, .int i_errorStart])), (a_i_bytes, .inl (cI, 800, .inl i_bytes_9)), (a_p1, .inl (cI, n_p1, .inl p1_9))] ++ []))) ([.ref a_x, .ref a_p1, .int v2] : List Value).toArray s 0 0 A) (F0 m 44 ls []) := by
    intro i_filled_44 i_bytes_44 p1_44 H locs ls hf hP hD hS hl
    rw [pL_number_J44] at hf
    cases hf
    exact g_vretX S hr hlocks (adV, fun _ => none, fun _ _ => 0) hP hD hS (Nat.le_refl _) (Nat.le_refl _) dL_number_44
  have J18 : ∀ (i_filled_18 : Int32) (i_bytes_18 : Nat → Int32) (p1_18 : Nat → Int32) (v3_18 : Int32) (H : Heap) (locs : List Loc) (ls : Array Slot), pL_number_J18 n_p1 v2 i_filled_18 i_bytes_18 p1_18 v3_18 = some (i_bytes_9, i_filled_9, p1_9) → va_P (dC, dI) vwCl ([(a_x, .inr (9, [.ref a_i, .ref a_f, .ref a_e, .ref a_r, .ref a_c, .ref a_p, .ref a_h, .ref a_t, .ref a_q])), (a_i, .inr (3, [.ref a_i_bytes, .int i_filled_18, .int i_length, .int i_kind, .int i_start, .int i_stop, .int i_value, .int i_errorCode, .int i_errorStart])), (a_i_bytes, .inl (cI, 800, .inl i_bytes_18)), (a_p1, .inl (cI, n_p1, .inl p1_18))] ++ []) H → va_D A ([(a_x, .inr (9, [.ref a_i, .ref a_f, .ref a_e, .ref a_r, .ref a_c, .ref a_p, .ref a_h, .ref a_t, .ref a_q])), (a_i, .inr (3, [.ref a_i_bytes, .int i_filled_18, .int i_length, .int i_kind, .int i_start, .int i_stop, .int i_value, .int i_errorCode, .int i_errorStart])), (a_i_bytes, .inl (cI, 800, .inl i_bytes_18)), (a_p1, .inl (cI, n_p1, .inl p1_18))] ++ []) → va_S A s.heap H locs → lv_has ls 4 [(0, .ref a_x), (1, .ref a_p1), (2, .int v2), (3, .int v3_18)] → W p l e ({ frames := 4, cells := 0, slots := 0, locals := 92 }) s m ([.ref a_x, .ref a_p1, .int v2] : List Value).toArray below meth c H locs 0 0 (MQ below (gXQ dC dI (fun _ => none) A (fun _ : EX => ([(a_x, .inr (9, [.ref a_i, .ref a_f, .ref a_e, .ref a_r, .ref a_c, .ref a_p, .ref a_h, .ref a_t, .ref a_q])), (a_i, .inr (3, [.ref a_i_bytes, .int i_filled_9, .int i_length, .int i_kind, .int i_start, .int i_stop, .int i_value, .int i_errorCode, .int i_errorStart])), (a_i_bytes, .inl (cI, 800, .inl i_bytes_9)), (a_p1, .inl (cI, n_p1, .inl p1_9))] ++ []))) ([.ref a_x, .ref a_p1, .int v2] : List Value).toArray s 0 0 A) (F0 m 18 ls []) := by
    intro i_filled_18 i_bytes_18 p1_18 v3_18 H locs ls hf hP hD hS hl
    rw [pL_number_J18] at hf
    have K18 : ∀ (n18 : Nat) (v3_18 : Int32) (i_bytes_18 : Nat → Int32) (i_filled_18 : Int32) (p1_18 : Nat → Int32) (ex18 : (Nat → Int32) × Int32 × (Nat → Int32)) (H : Heap) (locs : List Loc) (ls : Array Slot), pL_number_L18 n_p1 v2 n18 v3_18 i_bytes_18 i_filled_18 p1_18 = some ex18 → (uc3 fun i_bytes_x18 i_filled_x18 p1_x18 => pL_number_J44 i_filled_x18 i_bytes_x18 p1_x18) ex18 = some (i_bytes_9, i_filled_9, p1_9) → va_P (dC, dI) vwCl ([(a_x, .inr (9, [.ref a_i, .ref a_f, .ref a_e, .ref a_r, .ref a_c, .ref a_p, .ref a_h, .ref a_t, .ref a_q])), (a_i, .inr (3, [.ref a_i_bytes, .int i_filled_18, .int i_length, .int i_kind, .int i_start, .int i_stop, .int i_value, .int i_errorCode, .int i_errorStart])), (a_i_bytes, .inl (cI, 800, .inl i_bytes_18)), (a_p1, .inl (cI, n_p1, .inl p1_18))] ++ []) H → va_D A ([(a_x, .inr (9, [.ref a_i, .ref a_f, .ref a_e, .ref a_r, .ref a_c, .ref a_p, .ref a_h, .ref a_t, .ref a_q])), (a_i, .inr (3, [.ref a_i_bytes, .int i_filled_18, .int i_length, .int i_kind, .int i_start, .int i_stop, .int i_value, .int i_errorCode, .int i_errorStart])), (a_i_bytes, .inl (cI, 800, .inl i_bytes_18)), (a_p1, .inl (cI, n_p1, .inl p1_18))] ++ []) → va_S A s.heap H locs → lv_has ls 4 [(0, .ref a_x), (1, .ref a_p1), (2, .int v2), (3, .int v3_18)] → W p l e ({ frames := 4, cells := 0, slots := 0, locals := 92 }) s m ([.ref a_x, .ref a_p1, .int v2] : List Value).toArray below meth c H locs 0 0 (MQ below (gXQ dC dI (fun _ => none) A (fun _ : EX => ([(a_x, .inr (9, [.ref a_i, .ref a_f, .ref a_e, .ref a_r, .ref a_c, .ref a_p, .ref a_h, .ref a_t, .ref a_q])), (a_i, .inr (3, [.ref a_i_bytes, .int i_filled_9, .int i_length, .int i_kind, .int i_start, .int i_stop, .int i_value, .int i_errorCode, .int i_errorStart])), (a_i_bytes, .inl (cI, 800, .inl i_bytes_9)), (a_p1, .inl (cI, n_p1, .inl p1_9))] ++ []))) ([.ref a_x, .ref a_p1, .int v2] : List Value).toArray s 0 0 A) (F0 m 18 ls []) := by
      intro n18
      induction n18 with
      | zero => intro v3_18 i_bytes_18 i_filled_18 p1_18 ex18 H locs ls hf; rw [pL_number_L18] at hf; cases hf
      | succ n18 ih18 =>
        intro v3_18 i_bytes_18 i_filled_18 p1_18 ex18 H locs ls hf hk18 hP hD hS hl
        rw [pL_number_L18, pL_number_L18_B] at hf
        refine lv_iload_n hx hb dL_number_18 rfl (lv_at hl 3 rfl) ?_
        refine lv_if_le (tgt := 44) hx hb dL_number_19 (by decide) (fun h9 => ?_) (fun h9 => ?_)
        · have hf := itt h9 hf
          cases hf
          have hf := hk18
          have hf := uc3_e hf
          exact J44 i_filled_18 i_bytes_18 p1_18 H locs ls hf hP hD hS (lv_sub hl [] rfl)
        · have hf := itf h9 hf
          refine lv_aload_n hx hb dL_number_22 rfl (lv_at hl 0 rfl) ?_
          refine lv_aload_n hx hb dL_number_23 rfl (lv_at hl 1 rfl) ?_
          refine lv_bipush (v := 48) hx hb dL_number_24 (by decide) ?_
          refine lv_iload_n hx hb dL_number_26 rfl (lv_at hl 2 rfl) ?_
          refine lv_iload_n hx hb dL_number_27 rfl (lv_at hl 3 rfl) ?_
          obtain ⟨h9, hf⟩ := gz_s hf
          refine lv_idiv hx hb dL_number_28 h9 ?_
          refine lv_bipush (v := 10) hx hb dL_number_29 (by decide) ?_
          refine lv_irem hx hb dL_number_31 (by decide) ?_
          refine lv_iadd hx hb dL_number_32 ?_
          obtain ⟨⟨i_bytes_33, i_filled_33, p1_33⟩, h9, hf⟩ := ob_s hf
          have hf := uc3_e hf
          refine gxSQ (index := 14) S htg hE hG (c_L_add a_x a_i a_f a_e a_r a_c a_p a_h a_t a_q a_i_bytes a_p1 i_filled_18 i_length i_kind i_start i_stop i_value i_errorCode i_errorStart i_bytes_18 p1_18 n_p1 hn_p1 ((48 : Int32) + ((v2 / v3_18) - (v2 / v3_18) / (10 : Int32) * (10 : Int32))) i_bytes_33 i_filled_33 p1_33 h9) mL_add tw679 ⟨Nat.le_of_ble_eq_true rfl, Nat.le_of_ble_eq_true rfl⟩ hP hD hS hA ⟨Nat.zero_le _, Nat.zero_le _⟩ (X := [(a_x, .inr (9, [.ref a_i, .ref a_f, .ref a_e, .ref a_r, .ref a_c, .ref a_p, .ref a_h, .ref a_t, .ref a_q])), (a_i, .inr (3, [.ref a_i_bytes, .int i_filled_18, .int i_length, .int i_kind, .int i_start, .int i_stop, .int i_value, .int i_errorCode, .int i_errorStart])), (a_i_bytes, .inl (cI, 800, .inl i_bytes_18)), (a_p1, .inl (cI, n_p1, .inl p1_18))]) (cx := [(a_x, .inr (9, [.ref a_i, .ref a_f, .ref a_e, .ref a_r, .ref a_c, .ref a_p, .ref a_h, .ref a_t, .ref a_q])), (a_i, .inr (3, [.ref a_i_bytes, .int i_filled_18, .int i_length, .int i_kind, .int i_start, .int i_stop, .int i_value, .int i_errorCode, .int i_errorStart])), (a_i_bytes, .inl (cI, 800, .inl i_bytes_18)), (a_p1, .inl (cI, n_p1, .inl p1_18))]) (pl := []) (wr := []) [0, 1, 2, 3] [] rfl rfl rfl rfl (by decide) (As := [.ref a_x, .ref a_p1, .int ((48 : Int32) + ((v2 / v3_18) - (v2 / v3_18) / (10 : Int32) * (10 : Int32)))]) (rest := []) rfl hl.1 rfl (Nat.le_of_ble_eq_true rfl) dL_number_33 (fun H locs xx33 hP hD hS => ?_)
          refine W.eq (g2 := F0 m 36 ls []) rfl ?_
          have hP : va_P (dC, dI) vwCl ([(a_x, .inr (9, [.ref a_i, .ref a_f, .ref a_e, .ref a_r, .ref a_c, .ref a_p, .ref a_h, .ref a_t, .ref a_q])), (a_i, .inr (3, [.ref a_i_bytes, .int i_filled_33, .int i_length, .int i_kind, .int i_start, .int i_stop, .int i_value, .int i_errorCode, .int i_errorStart])), (a_i_bytes, .inl (cI, 800, .inl i_bytes_33)), (a_p1, .inl (cI, n_p1, .inl p1_33))] ++ []) H := hP
          have hD : va_D A ([(a_x, .inr (9, [.ref a_i, .ref a_f, .ref a_e, .ref a_r, .ref a_c, .ref a_p, .ref a_h, .ref a_t, .ref a_q])), (a_i, .inr (3, [.ref a_i_bytes, .int i_filled_33, .int i_length, .int i_kind, .int i_start, .int i_stop, .int i_value, .int i_errorCode, .int i_errorStart])), (a_i_bytes, .inl (cI, 800, .inl i_bytes_33)), (a_p1, .inl (cI, n_p1, .inl p1_33))] ++ []) := hD
          refine lv_iload_n hx hb dL_number_36 rfl (lv_at hl 3 rfl) ?_
          refine lv_bipush (v := 10) hx hb dL_number_37 (by decide) ?_
          refine lv_idiv hx hb dL_number_39 (by decide) ?_
          refine lv_topi (fun t40 h9 => ?_)
          have hf := lb_e h9 hf
          refine lv_istore_n (lv' := [(3, .int t40), (0, .ref a_x), (1, .ref a_p1), (2, .int v2)]) hx hb dL_number_40 rfl hl (by decide) rfl (fun ls hl => ?_)
          refine lv_goto (tgt := 18) hx hb dL_number_41 (by decide) ?_
          exact ih18 t40 i_bytes_33 i_filled_33 p1_33 ex18 H locs ls hf hk18 hP hD hS (lv_sub hl [1, 2, 3, 0] rfl)
    obtain ⟨ex, h9, hf⟩ := ob_s hf
    exact K18 FU v3_18 i_bytes_18 i_filled_18 p1_18 ex H locs ls h9 hf hP hD hS (lv_sub hl [0, 1, 2, 3] rfl)
  refine lv_iconst (v := 1) hx hb dL_number_0 (by decide) ?_
  refine lv_istore_n (lv' := [(3, .int (1 : Int32)), (0, .ref a_x), (1, .ref a_p1), (2, .int v2)]) hx hb dL_number_1 rfl hl (by decide) rfl (fun ls hl => ?_)
  have K2 : ∀ (n2 : Nat) (v3_2 : Int32) (ex2 : Int32) (H : Heap) (locs : List Loc) (ls : Array Slot), pL_number_L2 v2 n2 v3_2 = some ex2 → (fun v3_x2 => pL_number_J18 n_p1 v2 i_filled i_bytes p1 v3_x2) ex2 = some (i_bytes_9, i_filled_9, p1_9) → va_P (dC, dI) vwCl ([(a_x, .inr (9, [.ref a_i, .ref a_f, .ref a_e, .ref a_r, .ref a_c, .ref a_p, .ref a_h, .ref a_t, .ref a_q])), (a_i, .inr (3, [.ref a_i_bytes, .int i_filled, .int i_length, .int i_kind, .int i_start, .int i_stop, .int i_value, .int i_errorCode, .int i_errorStart])), (a_i_bytes, .inl (cI, 800, .inl i_bytes)), (a_p1, .inl (cI, n_p1, .inl p1))] ++ []) H → va_D A ([(a_x, .inr (9, [.ref a_i, .ref a_f, .ref a_e, .ref a_r, .ref a_c, .ref a_p, .ref a_h, .ref a_t, .ref a_q])), (a_i, .inr (3, [.ref a_i_bytes, .int i_filled, .int i_length, .int i_kind, .int i_start, .int i_stop, .int i_value, .int i_errorCode, .int i_errorStart])), (a_i_bytes, .inl (cI, 800, .inl i_bytes)), (a_p1, .inl (cI, n_p1, .inl p1))] ++ []) → va_S A s.heap H locs → lv_has ls 4 [(0, .ref a_x), (1, .ref a_p1), (2, .int v2), (3, .int v3_2)] → W p l e ({ frames := 4, cells := 0, slots := 0, locals := 92 }) s m ([.ref a_x, .ref a_p1, .int v2] : List Value).toArray below meth c H locs 0 0 (MQ below (gXQ dC dI (fun _ => none) A (fun _ : EX => ([(a_x, .inr (9, [.ref a_i, .ref a_f, .ref a_e, .ref a_r, .ref a_c, .ref a_p, .ref a_h, .ref a_t, .ref a_q])), (a_i, .inr (3, [.ref a_i_bytes, .int i_filled_9, .int i_length, .int i_kind, .int i_start, .int i_stop, .int i_value, .int i_errorCode, .int i_errorStart])), (a_i_bytes, .inl (cI, 800, .inl i_bytes_9)), (a_p1, .inl (cI, n_p1, .inl p1_9))] ++ []))) ([.ref a_x, .ref a_p1, .int v2] : List Value).toArray s 0 0 A) (F0 m 2 ls []) := by
    intro n2
    induction n2 with
    | zero => intro v3_2 ex2 H locs ls hf; rw [pL_number_L2] at hf; cases hf
    | succ n2 ih2 =>
      intro v3_2 ex2 H locs ls hf hk2 hP hD hS hl
      rw [pL_number_L2, pL_number_L2_B] at hf
      refine lv_iload_n hx hb dL_number_2 rfl (lv_at hl 3 rfl) ?_
      refine lv_iload_n hx hb dL_number_3 rfl (lv_at hl 2 rfl) ?_
      refine lv_bipush (v := 10) hx hb dL_number_4 (by decide) ?_
      refine lv_idiv hx hb dL_number_6 (by decide) ?_
      refine lv_icmp_gt (tgt := 18) hx hb dL_number_7 (by decide) (fun h9 => ?_) (fun h9 => ?_)
      · have hf := itt h9 hf
        cases hf
        have hf := hk2
        exact J18 i_filled i_bytes p1 v3_2 H locs ls hf hP hD hS (lv_sub hl [0, 1, 2, 3] rfl)
      · have hf := itf h9 hf
        refine lv_iload_n hx hb dL_number_10 rfl (lv_at hl 3 rfl) ?_
        refine lv_bipush (v := 10) hx hb dL_number_11 (by decide) ?_
        refine lv_imul hx hb dL_number_13 ?_
        refine lv_topi (fun t14 h9 => ?_)
        have hf := lb_e h9 hf
        refine lv_istore_n (lv' := [(3, .int t14), (0, .ref a_x), (1, .ref a_p1), (2, .int v2)]) hx hb dL_number_14 rfl hl (by decide) rfl (fun ls hl => ?_)
        refine lv_goto (tgt := 2) hx hb dL_number_15 (by decide) ?_
        exact ih2 t14 ex2 H locs ls hf hk2 hP hD hS (lv_sub hl [1, 2, 3, 0] rfl)
  obtain ⟨ex, h9, hf⟩ := ob_s hf
  exact K2 FU (1 : Int32) ex H locs ls h9 hf hP hD hS (lv_sub hl [1, 2, 3, 0] rfl)
set_option maxHeartbeats 4000000 in
set_option maxRecDepth 100000 in
theorem c_L_end (a_x a_i a_f a_e a_r a_c a_p a_h a_t a_q a_i_bytes a_p1 : Nat) (i_filled : Int32) (i_length : Int32) (i_kind : Int32) (i_start : Int32) (i_stop : Int32) (i_value : Int32) (i_errorCode : Int32) (i_errorStart : Int32) (i_bytes : Nat → Int32) (p1 : Nat → Int32) (n_p1 : Nat) (hn_p1 : n_p1 < 2147483648) (r9 : Int32) (i_bytes_9 : Nat → Int32) (i_filled_9 : Int32) (p1_9 : Nat → Int32) (hf : pL_end n_p1 i_filled i_bytes p1 = some (r9, i_bytes_9, i_filled_9, p1_9)) : gXM l dC dI cI cJ cZ cK adK adV yL_end cL_end 3 (some .int) (4) (92) 0 0 [.ref a_x, .ref a_p1] ([(a_x, .inr (9, [.ref a_i, .ref a_f, .ref a_e, .ref a_r, .ref a_c, .ref a_p, .ref a_h, .ref a_t, .ref a_q])), (a_i, .inr (3, [.ref a_i_bytes, .int i_filled, .int i_length, .int i_kind, .int i_start, .int i_stop, .int i_value, .int i_errorCode, .int i_errorStart])), (a_i_bytes, .inl (cI, 800, .inl i_bytes)), (a_p1, .inl (cI, n_p1, .inl p1))] ++ []) (fun _ : EX => ([(a_x, .inr (9, [.ref a_i, .ref a_f, .ref a_e, .ref a_r, .ref a_c, .ref a_p, .ref a_h, .ref a_t, .ref a_q])), (a_i, .inr (3, [.ref a_i_bytes, .int i_filled_9, .int i_length, .int i_kind, .int i_start, .int i_stop, .int i_value, .int i_errorCode, .int i_errorStart])), (a_i_bytes, .inl (cI, 800, .inl i_bytes_9)), (a_p1, .inl (cI, n_p1, .inl p1_9))] ++ [])) (fun _ => some (.int r9)) := by
  refine g_startX (own := RL) (by decide +kernel) rfl (Nat.le_of_ble_eq_true rfl) ?_
  intro p e s m below meth c A ls S hr hlocks hE hG hP hD hS hA hl hin
  have hFU : FU = 1024 := rfl
  have hx := S.1
  have hb := S.2.1
  have hml := S.2.2.1
  have hown := S.2.2.2.1
  have htg : ∀ z ∈ gw, z.before ([.ref a_x, .ref a_p1] : List Value).toArray s = true := fun w h => S.2.2.2.2 w (List.mem_cons_of_mem _ h)
  have hl : lv_has ls 3 [(0, .ref a_x), (1, .ref a_p1)] := hl
  have hS0 := hS
  obtain ⟨H, hH⟩ : ∃ H, H = s.heap := ⟨_, rfl⟩
  obtain ⟨locs, hlc⟩ : ∃ locs : List Loc, locs = [] := ⟨_, rfl⟩
  have hS : va_S A s.heap H locs := by rw [hH, hlc]; exact hS0
  have hP : va_P (dC, dI) vwCl ([(a_x, .inr (9, [.ref a_i, .ref a_f, .ref a_e, .ref a_r, .ref a_c, .ref a_p, .ref a_h, .ref a_t, .ref a_q])), (a_i, .inr (3, [.ref a_i_bytes, .int i_filled, .int i_length, .int i_kind, .int i_start, .int i_stop, .int i_value, .int i_errorCode, .int i_errorStart])), (a_i_bytes, .inl (cI, 800, .inl i_bytes)), (a_p1, .inl (cI, n_p1, .inl p1))] ++ []) H := by rw [hH]; exact hP
  suffices hgo : W p l e ({ frames := 4, cells := 0, slots := 0, locals := 92 }) s m ([.ref a_x, .ref a_p1] : List Value).toArray below meth c H locs 0 0 (MQ below (gXQ dC dI (fun _ => some (.int r9)) A (fun _ : EX => ([(a_x, .inr (9, [.ref a_i, .ref a_f, .ref a_e, .ref a_r, .ref a_c, .ref a_p, .ref a_h, .ref a_t, .ref a_q])), (a_i, .inr (3, [.ref a_i_bytes, .int i_filled_9, .int i_length, .int i_kind, .int i_start, .int i_stop, .int i_value, .int i_errorCode, .int i_errorStart])), (a_i_bytes, .inl (cI, 800, .inl i_bytes_9)), (a_p1, .inl (cI, n_p1, .inl p1_9))] ++ []))) ([.ref a_x, .ref a_p1] : List Value).toArray s 0 0 A) (F0 m 0 ls []) by rw [hH, hlc] at hgo; exact hgo
  rw [pL_end] at hf
  have J23 : ∀ (i_filled_23 : Int32) (i_bytes_23 : Nat → Int32) (p1_23 : Nat → Int32) (v2_23 : Int32) (H : Heap) (locs : List Loc) (ls : Array Slot), pL_end_J23 n_p1 i_filled_23 i_bytes_23 p1_23 v2_23 = some (r9, i_bytes_9, i_filled_9, p1_9) → va_P (dC, dI) vwCl ([(a_x, .inr (9, [.ref a_i, .ref a_f, .ref a_e, .ref a_r, .ref a_c, .ref a_p, .ref a_h, .ref a_t, .ref a_q])), (a_i, .inr (3, [.ref a_i_bytes, .int i_filled_23, .int i_length, .int i_kind, .int i_start, .int i_stop, .int i_value, .int i_errorCode, .int i_errorStart])), (a_i_bytes, .inl (cI, 800, .inl i_bytes_23)), (a_p1, .inl (cI, n_p1, .inl p1_23))] ++ []) H → va_D A ([(a_x, .inr (9, [.ref a_i, .ref a_f, .ref a_e, .ref a_r, .ref a_c, .ref a_p, .ref a_h, .ref a_t, .ref a_q])), (a_i, .inr (3, [.ref a_i_bytes, .int i_filled_23, .int i_length, .int i_kind, .int i_start, .int i_stop, .int i_value, .int i_errorCode, .int i_errorStart])), (a_i_bytes, .inl (cI, 800, .inl i_bytes_23)), (a_p1, .inl (cI, n_p1, .inl p1_23))] ++ []) → va_S A s.heap H locs → lv_has ls 3 [(1, .ref a_p1), (2, .int v2_23)] → W p l e ({ frames := 4, cells := 0, slots := 0, locals := 92 }) s m ([.ref a_x, .ref a_p1] : List Value).toArray below meth c H locs 0 0 (MQ below (gXQ dC dI (fun _ => some (.int r9)) A (fun _ : EX => ([(a_x, .inr (9, [.ref a_i, .ref a_f, .ref a_e, .ref a_r, .ref a_c, .ref a_p, .ref a_h, .ref a_t, .ref a_q])), (a_i, .inr (3, [.ref a_i_bytes, .int i_filled_9, .int i_length, .int i_kind, .int i_start, .int i_stop, .int i_value, .int i_errorCode, .int i_errorStart])), (a_i_bytes, .inl (cI, 800, .inl i_bytes_9)), (a_p1, .inl (cI, n_p1, .inl p1_9))] ++ []))) ([.ref a_x, .ref a_p1] : List Value).toArray s 0 0 A) (F0 m 23 ls []) := by
    intro i_filled_23 i_bytes_23 p1_23 v2_23 H locs ls hf hP hD hS hl
    rw [pL_end_J23] at hf
    refine lv_aload_n hx hb dL_end_23 rfl (lv_at hl 0 rfl) ?_
    refine lv_iconst (v := 5) hx hb dL_end_24 (by decide) ?_
    refine lv_iconst (v := 0) hx hb dL_end_25 (by decide) ?_
    obtain ⟨h9, hf⟩ := gd_s hf
    refine va_iast hx hb hE.1 hP hD hS 3 0 rfl rfl h9 dL_end_26 (fun H locs hP hD hS => ?_)
    obtain ⟨g26, h9⟩ : ∃ z, z = (upd p1_23 (5 : Int32).toNatClampNeg (0 : Int32)) := ⟨_, rfl⟩
    have hf := lb_e h9 hf
    have hP : va_P (dC, dI) vwCl ([(a_x, .inr (9, [.ref a_i, .ref a_f, .ref a_e, .ref a_r, .ref a_c, .ref a_p, .ref a_h, .ref a_t, .ref a_q])), (a_i, .inr (3, [.ref a_i_bytes, .int i_filled_23, .int i_length, .int i_kind, .int i_start, .int i_stop, .int i_value, .int i_errorCode, .int i_errorStart])), (a_i_bytes, .inl (cI, 800, .inl i_bytes_23)), (a_p1, .inl (cI, n_p1, .inl g26))] ++ []) H := by rw [h9]; exact hP
    have hD : va_D A ([(a_x, .inr (9, [.ref a_i, .ref a_f, .ref a_e, .ref a_r, .ref a_c, .ref a_p, .ref a_h, .ref a_t, .ref a_q])), (a_i, .inr (3, [.ref a_i_bytes, .int i_filled_23, .int i_length, .int i_kind, .int i_start, .int i_stop, .int i_value, .int i_errorCode, .int i_errorStart])), (a_i_bytes, .inl (cI, 800, .inl i_bytes_23)), (a_p1, .inl (cI, n_p1, .inl g26))] ++ []) := by rw [h9]; exact hD
    refine lv_iload_n hx hb dL_end_27 rfl (lv_at hl 1 rfl) ?_
    cases hf
    exact g_iretX S hr hlocks (adV, fun _ => none, fun _ _ => 0) hP hD hS (Nat.le_refl _) (Nat.le_refl _) dL_end_28
  refine lv_aload_n hx hb dL_end_0 rfl (lv_at hl 1 rfl) ?_
  refine lv_iconst (v := 5) hx hb dL_end_1 (by decide) ?_
  obtain ⟨h9, hf⟩ := gd_s hf
  refine va_iald hx hb hE.1 hP 3 0 rfl rfl h9 dL_end_2 ?_
  refine lv_topi (fun t3 h9 => ?_)
  have hf := lb_e h9 hf
  refine lv_istore_n (lv' := [(2, .int t3), (0, .ref a_x), (1, .ref a_p1)]) hx hb dL_end_3 rfl hl (by decide) rfl (fun ls hl => ?_)
  have K4 : ∀ (n4 : Nat) (i_bytes_4 : Nat → Int32) (i_filled_4 : Int32) (p1_4 : Nat → Int32) (ex4 : (Nat → Int32) × Int32 × (Nat → Int32)) (H : Heap) (locs : List Loc) (ls : Array Slot), pL_end_L4 n_p1 n4 i_bytes_4 i_filled_4 p1_4 = some ex4 → (uc3 fun i_bytes_x4 i_filled_x4 p1_x4 => pL_end_J23 n_p1 i_filled_x4 i_bytes_x4 p1_x4 t3) ex4 = some (r9, i_bytes_9, i_filled_9, p1_9) → va_P (dC, dI) vwCl ([(a_x, .inr (9, [.ref a_i, .ref a_f, .ref a_e, .ref a_r, .ref a_c, .ref a_p, .ref a_h, .ref a_t, .ref a_q])), (a_i, .inr (3, [.ref a_i_bytes, .int i_filled_4, .int i_length, .int i_kind, .int i_start, .int i_stop, .int i_value, .int i_errorCode, .int i_errorStart])), (a_i_bytes, .inl (cI, 800, .inl i_bytes_4)), (a_p1, .inl (cI, n_p1, .inl p1_4))] ++ []) H → va_D A ([(a_x, .inr (9, [.ref a_i, .ref a_f, .ref a_e, .ref a_r, .ref a_c, .ref a_p, .ref a_h, .ref a_t, .ref a_q])), (a_i, .inr (3, [.ref a_i_bytes, .int i_filled_4, .int i_length, .int i_kind, .int i_start, .int i_stop, .int i_value, .int i_errorCode, .int i_errorStart])), (a_i_bytes, .inl (cI, 800, .inl i_bytes_4)), (a_p1, .inl (cI, n_p1, .inl p1_4))] ++ []) → va_S A s.heap H locs → lv_has ls 3 [(0, .ref a_x), (1, .ref a_p1), (2, .int t3)] → W p l e ({ frames := 4, cells := 0, slots := 0, locals := 92 }) s m ([.ref a_x, .ref a_p1] : List Value).toArray below meth c H locs 0 0 (MQ below (gXQ dC dI (fun _ => some (.int r9)) A (fun _ : EX => ([(a_x, .inr (9, [.ref a_i, .ref a_f, .ref a_e, .ref a_r, .ref a_c, .ref a_p, .ref a_h, .ref a_t, .ref a_q])), (a_i, .inr (3, [.ref a_i_bytes, .int i_filled_9, .int i_length, .int i_kind, .int i_start, .int i_stop, .int i_value, .int i_errorCode, .int i_errorStart])), (a_i_bytes, .inl (cI, 800, .inl i_bytes_9)), (a_p1, .inl (cI, n_p1, .inl p1_9))] ++ []))) ([.ref a_x, .ref a_p1] : List Value).toArray s 0 0 A) (F0 m 4 ls []) := by
    intro n4
    induction n4 with
    | zero => intro i_bytes_4 i_filled_4 p1_4 ex4 H locs ls hf; rw [pL_end_L4] at hf; cases hf
    | succ n4 ih4 =>
      intro i_bytes_4 i_filled_4 p1_4 ex4 H locs ls hf hk4 hP hD hS hl
      rw [pL_end_L4, pL_end_L4_B] at hf
      refine lv_aload_n hx hb dL_end_4 rfl (lv_at hl 1 rfl) ?_
      refine lv_iconst (v := 5) hx hb dL_end_5 (by decide) ?_
      obtain ⟨h9, hf⟩ := gd_s hf
      refine va_iald hx hb hE.1 hP 3 0 rfl rfl h9 dL_end_6 ?_
      refine lv_bipush (v := 20) hx hb dL_end_7 (by decide) ?_
      refine lv_irem hx hb dL_end_9 (by decide) ?_
      refine lv_if_eq (tgt := 23) hx hb dL_end_10 (by decide) (fun h9 => ?_) (fun h9 => ?_)
      · have hf := itt h9 hf
        cases hf
        have hf := hk4
        have hf := uc3_e hf
        exact J23 i_filled_4 i_bytes_4 p1_4 t3 H locs ls hf hP hD hS (lv_sub hl [1, 2] rfl)
      · have hf := itf h9 hf
        refine lv_aload_n hx hb dL_end_13 rfl (lv_at hl 0 rfl) ?_
        refine lv_aload_n hx hb dL_end_14 rfl (lv_at hl 1 rfl) ?_
        refine lv_bipush (v := 32) hx hb dL_end_15 (by decide) ?_
        obtain ⟨⟨i_bytes_17, i_filled_17, p1_17⟩, h9, hf⟩ := ob_s hf
        have hf := uc3_e hf
        refine gxSQ (index := 14) S htg hE hG (c_L_add a_x a_i a_f a_e a_r a_c a_p a_h a_t a_q a_i_bytes a_p1 i_filled_4 i_length i_kind i_start i_stop i_value i_errorCode i_errorStart i_bytes_4 p1_4 n_p1 hn_p1 (32 : Int32) i_bytes_17 i_filled_17 p1_17 h9) mL_add tw679 ⟨Nat.le_of_ble_eq_true rfl, Nat.le_of_ble_eq_true rfl⟩ hP hD hS hA ⟨Nat.zero_le _, Nat.zero_le _⟩ (X := [(a_x, .inr (9, [.ref a_i, .ref a_f, .ref a_e, .ref a_r, .ref a_c, .ref a_p, .ref a_h, .ref a_t, .ref a_q])), (a_i, .inr (3, [.ref a_i_bytes, .int i_filled_4, .int i_length, .int i_kind, .int i_start, .int i_stop, .int i_value, .int i_errorCode, .int i_errorStart])), (a_i_bytes, .inl (cI, 800, .inl i_bytes_4)), (a_p1, .inl (cI, n_p1, .inl p1_4))]) (cx := [(a_x, .inr (9, [.ref a_i, .ref a_f, .ref a_e, .ref a_r, .ref a_c, .ref a_p, .ref a_h, .ref a_t, .ref a_q])), (a_i, .inr (3, [.ref a_i_bytes, .int i_filled_4, .int i_length, .int i_kind, .int i_start, .int i_stop, .int i_value, .int i_errorCode, .int i_errorStart])), (a_i_bytes, .inl (cI, 800, .inl i_bytes_4)), (a_p1, .inl (cI, n_p1, .inl p1_4))]) (pl := []) (wr := []) [0, 1, 2, 3] [] rfl rfl rfl rfl (by decide) (As := [.ref a_x, .ref a_p1, .int (32 : Int32)]) (rest := []) rfl hl.1 rfl (Nat.le_of_ble_eq_true rfl) dL_end_17 (fun H locs xx17 hP hD hS => ?_)
        refine W.eq (g2 := F0 m 20 ls []) rfl ?_
        have hP : va_P (dC, dI) vwCl ([(a_x, .inr (9, [.ref a_i, .ref a_f, .ref a_e, .ref a_r, .ref a_c, .ref a_p, .ref a_h, .ref a_t, .ref a_q])), (a_i, .inr (3, [.ref a_i_bytes, .int i_filled_17, .int i_length, .int i_kind, .int i_start, .int i_stop, .int i_value, .int i_errorCode, .int i_errorStart])), (a_i_bytes, .inl (cI, 800, .inl i_bytes_17)), (a_p1, .inl (cI, n_p1, .inl p1_17))] ++ []) H := hP
        have hD : va_D A ([(a_x, .inr (9, [.ref a_i, .ref a_f, .ref a_e, .ref a_r, .ref a_c, .ref a_p, .ref a_h, .ref a_t, .ref a_q])), (a_i, .inr (3, [.ref a_i_bytes, .int i_filled_17, .int i_length, .int i_kind, .int i_start, .int i_stop, .int i_value, .int i_errorCode, .int i_errorStart])), (a_i_bytes, .inl (cI, 800, .inl i_bytes_17)), (a_p1, .inl (cI, n_p1, .inl p1_17))] ++ []) := hD
        refine lv_goto (tgt := 4) hx hb dL_end_20 (by decide) ?_
        exact ih4 i_bytes_17 i_filled_17 p1_17 ex4 H locs ls hf hk4 hP hD hS (lv_sub hl [0, 1, 2] rfl)
  obtain ⟨ex, h9, hf⟩ := ob_s hf
  exact K4 FU i_bytes i_filled p1 ex H locs ls h9 hf hP hD hS (lv_sub hl [1, 2, 0] rfl)
set_option maxHeartbeats 4000000 in
set_option maxRecDepth 100000 in
theorem c_L_word (a_x a_i a_f a_e a_r a_c a_p a_h a_t a_q a_i_bytes a_p1 : Nat) (i_filled : Int32) (i_length : Int32) (i_kind : Int32) (i_start : Int32) (i_stop : Int32) (i_value : Int32) (i_errorCode : Int32) (i_errorStart : Int32) (i_bytes : Nat → Int32) (p1 : Nat → Int32) (n_p1 : Nat) (hn_p1 : n_p1 < 2147483648) (v2 : Nat) (hv2 : v2 < 5) (i_bytes_9 : Nat → Int32) (i_filled_9 : Int32) (p1_9 : Nat → Int32) (hf : pL_word n_p1 i_filled i_bytes p1 v2 = some (i_bytes_9, i_filled_9, p1_9)) : gXM l dC dI cI cJ cZ cK adK adV yL_word cL_word 4 none (4) (92) 0 0 [.ref a_x, .ref a_p1, .ref (adK v2)] ([(a_x, .inr (9, [.ref a_i, .ref a_f, .ref a_e, .ref a_r, .ref a_c, .ref a_p, .ref a_h, .ref a_t, .ref a_q])), (a_i, .inr (3, [.ref a_i_bytes, .int i_filled, .int i_length, .int i_kind, .int i_start, .int i_stop, .int i_value, .int i_errorCode, .int i_errorStart])), (a_i_bytes, .inl (cI, 800, .inl i_bytes)), (a_p1, .inl (cI, n_p1, .inl p1))] ++ []) (fun _ : EX => ([(a_x, .inr (9, [.ref a_i, .ref a_f, .ref a_e, .ref a_r, .ref a_c, .ref a_p, .ref a_h, .ref a_t, .ref a_q])), (a_i, .inr (3, [.ref a_i_bytes, .int i_filled_9, .int i_length, .int i_kind, .int i_start, .int i_stop, .int i_value, .int i_errorCode, .int i_errorStart])), (a_i_bytes, .inl (cI, 800, .inl i_bytes_9)), (a_p1, .inl (cI, n_p1, .inl p1_9))] ++ [])) (fun _ => none) := by
  refine g_startX (own := RL) (by decide +kernel) rfl (Nat.le_of_ble_eq_true rfl) ?_
  intro p e s m below meth c A ls S hr hlocks hE hG hP hD hS hA hl hin
  have hFU : FU = 1024 := rfl
  have hx := S.1
  have hb := S.2.1
  have hml := S.2.2.1
  have hown := S.2.2.2.1
  have htg : ∀ z ∈ gw, z.before ([.ref a_x, .ref a_p1, .ref (adK v2)] : List Value).toArray s = true := fun w h => S.2.2.2.2 w (List.mem_cons_of_mem _ h)
  have hl : lv_has ls 4 [(0, .ref a_x), (1, .ref a_p1), (2, .ref (adK v2))] := hl
  have hS0 := hS
  obtain ⟨H, hH⟩ : ∃ H, H = s.heap := ⟨_, rfl⟩
  obtain ⟨locs, hlc⟩ : ∃ locs : List Loc, locs = [] := ⟨_, rfl⟩
  have hS : va_S A s.heap H locs := by rw [hH, hlc]; exact hS0
  have hP : va_P (dC, dI) vwCl ([(a_x, .inr (9, [.ref a_i, .ref a_f, .ref a_e, .ref a_r, .ref a_c, .ref a_p, .ref a_h, .ref a_t, .ref a_q])), (a_i, .inr (3, [.ref a_i_bytes, .int i_filled, .int i_length, .int i_kind, .int i_start, .int i_stop, .int i_value, .int i_errorCode, .int i_errorStart])), (a_i_bytes, .inl (cI, 800, .inl i_bytes)), (a_p1, .inl (cI, n_p1, .inl p1))] ++ []) H := by rw [hH]; exact hP
  suffices hgo : W p l e ({ frames := 4, cells := 0, slots := 0, locals := 92 }) s m ([.ref a_x, .ref a_p1, .ref (adK v2)] : List Value).toArray below meth c H locs 0 0 (MQ below (gXQ dC dI (fun _ => none) A (fun _ : EX => ([(a_x, .inr (9, [.ref a_i, .ref a_f, .ref a_e, .ref a_r, .ref a_c, .ref a_p, .ref a_h, .ref a_t, .ref a_q])), (a_i, .inr (3, [.ref a_i_bytes, .int i_filled_9, .int i_length, .int i_kind, .int i_start, .int i_stop, .int i_value, .int i_errorCode, .int i_errorStart])), (a_i_bytes, .inl (cI, 800, .inl i_bytes_9)), (a_p1, .inl (cI, n_p1, .inl p1_9))] ++ []))) ([.ref a_x, .ref a_p1, .ref (adK v2)] : List Value).toArray s 0 0 A) (F0 m 0 ls []) by rw [hH, hlc] at hgo; exact hgo
  rw [pL_word] at hf
  have J26 : ∀ (i_filled_26 : Int32) (i_bytes_26 : Nat → Int32) (p1_26 : Nat → Int32) (H : Heap) (locs : List Loc) (ls : Array Slot), pL_word_J26 i_filled_26 i_bytes_26 p1_26 = some (i_bytes_9, i_filled_9, p1_9) → va_P (dC, dI) vwCl ([(a_x, .inr (9, [.ref a_i, .ref a_f, .ref a_e, .ref a_r, .ref a_c, .ref a_p, .ref a_h, .ref a_t, .ref a_q])), (a_i, .inr (3, [.ref a_i_bytes, .int i_filled_26, .int i_length, .int i_kind, .int i_start, .int i_stop, .int i_value, .int i_errorCode, .int i_errorStart])), (a_i_bytes, .inl (cI, 800, .inl i_bytes_26)), (a_p1, .inl (cI, n_p1, .inl p1_26))] ++ []) H → va_D A ([(a_x, .inr (9, [.ref a_i, .ref a_f, .ref a_e, .ref a_r, .ref a_c, .ref a_p, .ref a_h, .ref a_t, .ref a_q])), (a_i, .inr (3, [.ref a_i_bytes, .int i_filled_26, .int i_length, .int i_kind, .int i_start, .int i_stop, .int i_value, .int i_errorCode, .int i_errorStart])), (a_i_bytes, .inl (cI, 800, .inl i_bytes_26)), (a_p1, .inl (cI, n_p1, .inl p1_26))] ++ []) → va_S A s.heap H locs → lv_has ls 4 [] → W p l e ({ frames := 4, cells := 0, slots := 0, locals := 92 }) s m ([.ref a_x, .ref a_p1, .ref (adK v2)] : List Value).toArray below meth c H locs 0 0 (MQ below (gXQ dC dI (fun _ => none) A (fun _ : EX => ([(a_x, .inr (9, [.ref a_i, .ref a_f, .ref a_e, .ref a_r, .ref a_c, .ref a_p, .ref a_h, .ref a_t, .ref a_q])), (a_i, .inr (3, [.ref a_i_bytes, .int i_filled_9, .int i_length, .int i_kind, .int i_start, .int i_stop, .int i_value, .int i_errorCode, .int i_errorStart])), (a_i_bytes, .inl (cI, 800, .inl i_bytes_9)), (a_p1, .inl (cI, n_p1, .inl p1_9))] ++ []))) ([.ref a_x, .ref a_p1, .ref (adK v2)] : List Value).toArray s 0 0 A) (F0 m 26 ls []) := by
    intro i_filled_26 i_bytes_26 p1_26 H locs ls hf hP hD hS hl
    rw [pL_word_J26] at hf
    cases hf
    exact g_vretX S hr hlocks (adV, fun _ => none, fun _ _ => 0) hP hD hS (Nat.le_refl _) (Nat.le_refl _) dL_word_26
  refine lv_iconst (v := 0) hx hb dL_word_0 (by decide) ?_
  refine lv_istore_n (lv' := [(3, .int (0 : Int32)), (0, .ref a_x), (1, .ref a_p1), (2, .ref (adK v2))]) hx hb dL_word_1 rfl hl (by decide) rfl (fun ls hl => ?_)
  have K2 : ∀ (n2 : Nat) (v3_2 : Int32) (i_bytes_2 : Nat → Int32) (i_filled_2 : Int32) (p1_2 : Nat → Int32) (ex2 : (Nat → Int32) × Int32 × (Nat → Int32)) (H : Heap) (locs : List Loc) (ls : Array Slot), pL_word_L2 n_p1 v2 n2 v3_2 i_bytes_2 i_filled_2 p1_2 = some ex2 → (uc3 fun i_bytes_x2 i_filled_x2 p1_x2 => pL_word_J26 i_filled_x2 i_bytes_x2 p1_x2) ex2 = some (i_bytes_9, i_filled_9, p1_9) → va_P (dC, dI) vwCl ([(a_x, .inr (9, [.ref a_i, .ref a_f, .ref a_e, .ref a_r, .ref a_c, .ref a_p, .ref a_h, .ref a_t, .ref a_q])), (a_i, .inr (3, [.ref a_i_bytes, .int i_filled_2, .int i_length, .int i_kind, .int i_start, .int i_stop, .int i_value, .int i_errorCode, .int i_errorStart])), (a_i_bytes, .inl (cI, 800, .inl i_bytes_2)), (a_p1, .inl (cI, n_p1, .inl p1_2))] ++ []) H → va_D A ([(a_x, .inr (9, [.ref a_i, .ref a_f, .ref a_e, .ref a_r, .ref a_c, .ref a_p, .ref a_h, .ref a_t, .ref a_q])), (a_i, .inr (3, [.ref a_i_bytes, .int i_filled_2, .int i_length, .int i_kind, .int i_start, .int i_stop, .int i_value, .int i_errorCode, .int i_errorStart])), (a_i_bytes, .inl (cI, 800, .inl i_bytes_2)), (a_p1, .inl (cI, n_p1, .inl p1_2))] ++ []) → va_S A s.heap H locs → lv_has ls 4 [(0, .ref a_x), (1, .ref a_p1), (2, .ref (adK v2)), (3, .int v3_2)] → W p l e ({ frames := 4, cells := 0, slots := 0, locals := 92 }) s m ([.ref a_x, .ref a_p1, .ref (adK v2)] : List Value).toArray below meth c H locs 0 0 (MQ below (gXQ dC dI (fun _ => none) A (fun _ : EX => ([(a_x, .inr (9, [.ref a_i, .ref a_f, .ref a_e, .ref a_r, .ref a_c, .ref a_p, .ref a_h, .ref a_t, .ref a_q])), (a_i, .inr (3, [.ref a_i_bytes, .int i_filled_9, .int i_length, .int i_kind, .int i_start, .int i_stop, .int i_value, .int i_errorCode, .int i_errorStart])), (a_i_bytes, .inl (cI, 800, .inl i_bytes_9)), (a_p1, .inl (cI, n_p1, .inl p1_9))] ++ []))) ([.ref a_x, .ref a_p1, .ref (adK v2)] : List Value).toArray s 0 0 A) (F0 m 2 ls []) := by
    intro n2
    induction n2 with
    | zero => intro v3_2 i_bytes_2 i_filled_2 p1_2 ex2 H locs ls hf; rw [pL_word_L2] at hf; cases hf
    | succ n2 ih2 =>
      intro v3_2 i_bytes_2 i_filled_2 p1_2 ex2 H locs ls hf hk2 hP hD hS hl
      rw [pL_word_L2, pL_word_L2_B] at hf
      refine lv_iload_n hx hb dL_word_2 rfl (lv_at hl 3 rfl) ?_
      refine lv_aload_n hx hb dL_word_3 rfl (lv_at hl 2 rfl) ?_
      refine gcRH (index := 70) S hE hG (c_J0_length v2 hv2) mJ0_length tw631 ⟨Nat.le_of_ble_eq_true rfl, Nat.le_of_ble_eq_true rfl⟩ hP hD hS hA ⟨Nat.zero_le _, Nat.zero_le _⟩ ((hG.2.2.2.2.1 v2 hv2).recv hS) (wr := [(a_x, .inr (9, [.ref a_i, .ref a_f, .ref a_e, .ref a_r, .ref a_c, .ref a_p, .ref a_h, .ref a_t, .ref a_q])), (a_i, .inr (3, [.ref a_i_bytes, .int i_filled_2, .int i_length, .int i_kind, .int i_start, .int i_stop, .int i_value, .int i_errorCode, .int i_errorStart])), (a_i_bytes, .inl (cI, 800, .inl i_bytes_2)), (a_p1, .inl (cI, n_p1, .inl p1_2))]) [] [0, 1, 2, 3] rfl rfl rfl (by decide) (by decide) (As := []) (rest := [.int v3_2]) rfl hl.1 rfl (Nat.le_of_ble_eq_true rfl) dL_word_4 (fun H locs hP hD hS => ?_)
      refine W.eq (g2 := F0 m 7 ls [.int (Int32.ofNat (txl v2)), .int v3_2]) rfl ?_
      have hP : va_P (dC, dI) vwCl ([(a_x, .inr (9, [.ref a_i, .ref a_f, .ref a_e, .ref a_r, .ref a_c, .ref a_p, .ref a_h, .ref a_t, .ref a_q])), (a_i, .inr (3, [.ref a_i_bytes, .int i_filled_2, .int i_length, .int i_kind, .int i_start, .int i_stop, .int i_value, .int i_errorCode, .int i_errorStart])), (a_i_bytes, .inl (cI, 800, .inl i_bytes_2)), (a_p1, .inl (cI, n_p1, .inl p1_2))] ++ []) H := hP
      have hD : va_D A ([(a_x, .inr (9, [.ref a_i, .ref a_f, .ref a_e, .ref a_r, .ref a_c, .ref a_p, .ref a_h, .ref a_t, .ref a_q])), (a_i, .inr (3, [.ref a_i_bytes, .int i_filled_2, .int i_length, .int i_kind, .int i_start, .int i_stop, .int i_value, .int i_errorCode, .int i_errorStart])), (a_i_bytes, .inl (cI, 800, .inl i_bytes_2)), (a_p1, .inl (cI, n_p1, .inl p1_2))] ++ []) := hD
      refine lv_icmp_ge (tgt := 26) hx hb dL_word_7 (by decide) (fun h9 => ?_) (fun h9 => ?_)
      · have hf := itt h9 hf
        cases hf
        have hf := hk2
        have hf := uc3_e hf
        exact J26 i_filled_2 i_bytes_2 p1_2 H locs ls hf hP hD hS (lv_sub hl [] rfl)
      · have hf := itf h9 hf
        refine lv_aload_n hx hb dL_word_10 rfl (lv_at hl 0 rfl) ?_
        refine lv_aload_n hx hb dL_word_11 rfl (lv_at hl 1 rfl) ?_
        refine lv_aload_n hx hb dL_word_12 rfl (lv_at hl 2 rfl) ?_
        refine lv_iload_n hx hb dL_word_13 rfl (lv_at hl 3 rfl) ?_
        obtain ⟨h9, hf⟩ := gd_s hf
        refine gcRH (index := 76) S hE hG (c_J0_charAt v2 hv2 v3_2 (fun q => h9 (Or.inl q)) (Nat.lt_of_not_le fun q => h9 (Or.inr q))) mJ0_charAt tw641 ⟨Nat.le_of_ble_eq_true rfl, Nat.le_of_ble_eq_true rfl⟩ hP hD hS hA ⟨Nat.zero_le _, Nat.zero_le _⟩ ((hG.2.2.2.2.1 v2 hv2).recv hS) (wr := [(a_x, .inr (9, [.ref a_i, .ref a_f, .ref a_e, .ref a_r, .ref a_c, .ref a_p, .ref a_h, .ref a_t, .ref a_q])), (a_i, .inr (3, [.ref a_i_bytes, .int i_filled_2, .int i_length, .int i_kind, .int i_start, .int i_stop, .int i_value, .int i_errorCode, .int i_errorStart])), (a_i_bytes, .inl (cI, 800, .inl i_bytes_2)), (a_p1, .inl (cI, n_p1, .inl p1_2))]) [] [0, 1, 2, 3] rfl rfl rfl (by decide) (by decide) (As := [.int v3_2]) (rest := [.ref a_p1, .ref a_x]) rfl hl.1 rfl (Nat.le_of_ble_eq_true rfl) dL_word_14 (fun H locs hP hD hS => ?_)
        refine W.eq (g2 := F0 m 17 ls [.int (chv v2 v3_2.toNatClampNeg), .ref a_p1, .ref a_x]) rfl ?_
        have hP : va_P (dC, dI) vwCl ([(a_x, .inr (9, [.ref a_i, .ref a_f, .ref a_e, .ref a_r, .ref a_c, .ref a_p, .ref a_h, .ref a_t, .ref a_q])), (a_i, .inr (3, [.ref a_i_bytes, .int i_filled_2, .int i_length, .int i_kind, .int i_start, .int i_stop, .int i_value, .int i_errorCode, .int i_errorStart])), (a_i_bytes, .inl (cI, 800, .inl i_bytes_2)), (a_p1, .inl (cI, n_p1, .inl p1_2))] ++ []) H := hP
        have hD : va_D A ([(a_x, .inr (9, [.ref a_i, .ref a_f, .ref a_e, .ref a_r, .ref a_c, .ref a_p, .ref a_h, .ref a_t, .ref a_q])), (a_i, .inr (3, [.ref a_i_bytes, .int i_filled_2, .int i_length, .int i_kind, .int i_start, .int i_stop, .int i_value, .int i_errorCode, .int i_errorStart])), (a_i_bytes, .inl (cI, 800, .inl i_bytes_2)), (a_p1, .inl (cI, n_p1, .inl p1_2))] ++ []) := hD
        obtain ⟨⟨i_bytes_17, i_filled_17, p1_17⟩, h9, hf⟩ := ob_s hf
        have hf := uc3_e hf
        refine gxSQ (index := 14) S htg hE hG (c_L_add a_x a_i a_f a_e a_r a_c a_p a_h a_t a_q a_i_bytes a_p1 i_filled_2 i_length i_kind i_start i_stop i_value i_errorCode i_errorStart i_bytes_2 p1_2 n_p1 hn_p1 (chv v2 v3_2.toNatClampNeg) i_bytes_17 i_filled_17 p1_17 h9) mL_add tw679 ⟨Nat.le_of_ble_eq_true rfl, Nat.le_of_ble_eq_true rfl⟩ hP hD hS hA ⟨Nat.zero_le _, Nat.zero_le _⟩ (X := [(a_x, .inr (9, [.ref a_i, .ref a_f, .ref a_e, .ref a_r, .ref a_c, .ref a_p, .ref a_h, .ref a_t, .ref a_q])), (a_i, .inr (3, [.ref a_i_bytes, .int i_filled_2, .int i_length, .int i_kind, .int i_start, .int i_stop, .int i_value, .int i_errorCode, .int i_errorStart])), (a_i_bytes, .inl (cI, 800, .inl i_bytes_2)), (a_p1, .inl (cI, n_p1, .inl p1_2))]) (cx := [(a_x, .inr (9, [.ref a_i, .ref a_f, .ref a_e, .ref a_r, .ref a_c, .ref a_p, .ref a_h, .ref a_t, .ref a_q])), (a_i, .inr (3, [.ref a_i_bytes, .int i_filled_2, .int i_length, .int i_kind, .int i_start, .int i_stop, .int i_value, .int i_errorCode, .int i_errorStart])), (a_i_bytes, .inl (cI, 800, .inl i_bytes_2)), (a_p1, .inl (cI, n_p1, .inl p1_2))]) (pl := []) (wr := []) [0, 1, 2, 3] [] rfl rfl rfl rfl (by decide) (As := [.ref a_x, .ref a_p1, .int (chv v2 v3_2.toNatClampNeg)]) (rest := []) rfl hl.1 rfl (Nat.le_of_ble_eq_true rfl) dL_word_17 (fun H locs xx17 hP hD hS => ?_)
        refine W.eq (g2 := F0 m 20 ls []) rfl ?_
        have hP : va_P (dC, dI) vwCl ([(a_x, .inr (9, [.ref a_i, .ref a_f, .ref a_e, .ref a_r, .ref a_c, .ref a_p, .ref a_h, .ref a_t, .ref a_q])), (a_i, .inr (3, [.ref a_i_bytes, .int i_filled_17, .int i_length, .int i_kind, .int i_start, .int i_stop, .int i_value, .int i_errorCode, .int i_errorStart])), (a_i_bytes, .inl (cI, 800, .inl i_bytes_17)), (a_p1, .inl (cI, n_p1, .inl p1_17))] ++ []) H := hP
        have hD : va_D A ([(a_x, .inr (9, [.ref a_i, .ref a_f, .ref a_e, .ref a_r, .ref a_c, .ref a_p, .ref a_h, .ref a_t, .ref a_q])), (a_i, .inr (3, [.ref a_i_bytes, .int i_filled_17, .int i_length, .int i_kind, .int i_start, .int i_stop, .int i_value, .int i_errorCode, .int i_errorStart])), (a_i_bytes, .inl (cI, 800, .inl i_bytes_17)), (a_p1, .inl (cI, n_p1, .inl p1_17))] ++ []) := hD
        obtain ⟨t20, h9⟩ : ∃ z : Int32, z = (v3_2 + (1 : Int32)) := ⟨_, rfl⟩
        have hf := lb_e h9 hf
        refine lv_iinc (v := t20) (lv' := [(3, .int t20), (0, .ref a_x), (1, .ref a_p1), (2, .ref (adK v2))]) hx hb dL_word_20 hl (k := 3) rfl (by rw [h9]; rfl) (by decide) rfl (fun ls hl => ?_)
        refine lv_goto (tgt := 2) hx hb dL_word_23 (by decide) ?_
        exact ih2 t20 i_bytes_17 i_filled_17 p1_17 ex2 H locs ls hf hk2 hP hD hS (lv_sub hl [1, 2, 3, 0] rfl)
  obtain ⟨ex, h9, hf⟩ := ob_s hf
  exact K2 FU (0 : Int32) i_bytes i_filled p1 ex H locs ls h9 hf hP hD hS (lv_sub hl [1, 2, 3, 0] rfl)
set_option maxHeartbeats 4000000 in
set_option maxRecDepth 100000 in
theorem c_L_with (a_x a_i a_f a_e a_r a_c a_p a_h a_t a_q a_i_bytes a_p1 : Nat) (i_filled : Int32) (i_length : Int32) (i_kind : Int32) (i_start : Int32) (i_stop : Int32) (i_value : Int32) (i_errorCode : Int32) (i_errorStart : Int32) (i_bytes : Nat → Int32) (p1 : Nat → Int32) (n_p1 : Nat) (hn_p1 : n_p1 < 2147483648) (v2 : Nat) (hv2 : v2 < 5) (v3 : Int32) (i_bytes_9 : Nat → Int32) (i_filled_9 : Int32) (p1_9 : Nat → Int32) (hf : pL_with n_p1 i_filled i_bytes p1 v2 v3 = some (i_bytes_9, i_filled_9, p1_9)) : gXM l dC dI cI cJ cZ cK adK adV yL_with cL_with 4 none (5) (115) 0 0 [.ref a_x, .ref a_p1, .ref (adK v2), .int v3] ([(a_x, .inr (9, [.ref a_i, .ref a_f, .ref a_e, .ref a_r, .ref a_c, .ref a_p, .ref a_h, .ref a_t, .ref a_q])), (a_i, .inr (3, [.ref a_i_bytes, .int i_filled, .int i_length, .int i_kind, .int i_start, .int i_stop, .int i_value, .int i_errorCode, .int i_errorStart])), (a_i_bytes, .inl (cI, 800, .inl i_bytes)), (a_p1, .inl (cI, n_p1, .inl p1))] ++ []) (fun _ : EX => ([(a_x, .inr (9, [.ref a_i, .ref a_f, .ref a_e, .ref a_r, .ref a_c, .ref a_p, .ref a_h, .ref a_t, .ref a_q])), (a_i, .inr (3, [.ref a_i_bytes, .int i_filled_9, .int i_length, .int i_kind, .int i_start, .int i_stop, .int i_value, .int i_errorCode, .int i_errorStart])), (a_i_bytes, .inl (cI, 800, .inl i_bytes_9)), (a_p1, .inl (cI, n_p1, .inl p1_9))] ++ [])) (fun _ => none) := by
  refine g_startX (own := RL) (by decide +kernel) rfl (Nat.le_of_ble_eq_true rfl) ?_
  intro p e s m below meth c A ls S hr hlocks hE hG hP hD hS hA hl hin
  have hFU : FU = 1024 := rfl
  have hx := S.1
  have hb := S.2.1
  have hml := S.2.2.1
  have hown := S.2.2.2.1
  have htg : ∀ z ∈ gw, z.before ([.ref a_x, .ref a_p1, .ref (adK v2), .int v3] : List Value).toArray s = true := fun w h => S.2.2.2.2 w (List.mem_cons_of_mem _ h)
  have hl : lv_has ls 4 [(0, .ref a_x), (1, .ref a_p1), (2, .ref (adK v2)), (3, .int v3)] := hl
  have hS0 := hS
  obtain ⟨H, hH⟩ : ∃ H, H = s.heap := ⟨_, rfl⟩
  obtain ⟨locs, hlc⟩ : ∃ locs : List Loc, locs = [] := ⟨_, rfl⟩
  have hS : va_S A s.heap H locs := by rw [hH, hlc]; exact hS0
  have hP : va_P (dC, dI) vwCl ([(a_x, .inr (9, [.ref a_i, .ref a_f, .ref a_e, .ref a_r, .ref a_c, .ref a_p, .ref a_h, .ref a_t, .ref a_q])), (a_i, .inr (3, [.ref a_i_bytes, .int i_filled, .int i_length, .int i_kind, .int i_start, .int i_stop, .int i_value, .int i_errorCode, .int i_errorStart])), (a_i_bytes, .inl (cI, 800, .inl i_bytes)), (a_p1, .inl (cI, n_p1, .inl p1))] ++ []) H := by rw [hH]; exact hP
  suffices hgo : W p l e ({ frames := 5, cells := 0, slots := 0, locals := 115 }) s m ([.ref a_x, .ref a_p1, .ref (adK v2), .int v3] : List Value).toArray below meth c H locs 0 0 (MQ below (gXQ dC dI (fun _ => none) A (fun _ : EX => ([(a_x, .inr (9, [.ref a_i, .ref a_f, .ref a_e, .ref a_r, .ref a_c, .ref a_p, .ref a_h, .ref a_t, .ref a_q])), (a_i, .inr (3, [.ref a_i_bytes, .int i_filled_9, .int i_length, .int i_kind, .int i_start, .int i_stop, .int i_value, .int i_errorCode, .int i_errorStart])), (a_i_bytes, .inl (cI, 800, .inl i_bytes_9)), (a_p1, .inl (cI, n_p1, .inl p1_9))] ++ []))) ([.ref a_x, .ref a_p1, .ref (adK v2), .int v3] : List Value).toArray s 0 0 A) (F0 m 0 ls []) by rw [hH, hlc] at hgo; exact hgo
  rw [pL_with] at hf
  refine lv_aload_n hx hb dL_with_0 rfl (lv_at hl 0 rfl) ?_
  refine lv_aload_n hx hb dL_with_1 rfl (lv_at hl 1 rfl) ?_
  refine lv_aload_n hx hb dL_with_2 rfl (lv_at hl 2 rfl) ?_
  obtain ⟨⟨i_bytes_3, i_filled_3, p1_3⟩, h9, hf⟩ := ob_s hf
  have hf := uc3_e hf
  refine gxSQ (index := 80) S htg hE hG (c_L_word a_x a_i a_f a_e a_r a_c a_p a_h a_t a_q a_i_bytes a_p1 i_filled i_length i_kind i_start i_stop i_value i_errorCode i_errorStart i_bytes p1 n_p1 hn_p1 v2 hv2 i_bytes_3 i_filled_3 p1_3 h9) mL_word tw628 ⟨Nat.le_of_ble_eq_true rfl, Nat.le_of_ble_eq_true rfl⟩ hP hD hS hA ⟨Nat.zero_le _, Nat.zero_le _⟩ (X := [(a_x, .inr (9, [.ref a_i, .ref a_f, .ref a_e, .ref a_r, .ref a_c, .ref a_p, .ref a_h, .ref a_t, .ref a_q])), (a_i, .inr (3, [.ref a_i_bytes, .int i_filled, .int i_length, .int i_kind, .int i_start, .int i_stop, .int i_value, .int i_errorCode, .int i_errorStart])), (a_i_bytes, .inl (cI, 800, .inl i_bytes)), (a_p1, .inl (cI, n_p1, .inl p1))]) (cx := [(a_x, .inr (9, [.ref a_i, .ref a_f, .ref a_e, .ref a_r, .ref a_c, .ref a_p, .ref a_h, .ref a_t, .ref a_q])), (a_i, .inr (3, [.ref a_i_bytes, .int i_filled, .int i_length, .int i_kind, .int i_start, .int i_stop, .int i_value, .int i_errorCode, .int i_errorStart])), (a_i_bytes, .inl (cI, 800, .inl i_bytes)), (a_p1, .inl (cI, n_p1, .inl p1))]) (pl := []) (wr := []) [0, 1, 2, 3] [] rfl rfl rfl rfl (by decide) (As := [.ref a_x, .ref a_p1, .ref (adK v2)]) (rest := []) rfl hl.1 rfl (Nat.le_of_ble_eq_true rfl) dL_with_3 (fun H locs xx3 hP hD hS => ?_)
  refine W.eq (g2 := F0 m 6 ls []) rfl ?_
  have hP : va_P (dC, dI) vwCl ([(a_x, .inr (9, [.ref a_i, .ref a_f, .ref a_e, .ref a_r, .ref a_c, .ref a_p, .ref a_h, .ref a_t, .ref a_q])), (a_i, .inr (3, [.ref a_i_bytes, .int i_filled_3, .int i_length, .int i_kind, .int i_start, .int i_stop, .int i_value, .int i_errorCode, .int i_errorStart])), (a_i_bytes, .inl (cI, 800, .inl i_bytes_3)), (a_p1, .inl (cI, n_p1, .inl p1_3))] ++ []) H := hP
  have hD : va_D A ([(a_x, .inr (9, [.ref a_i, .ref a_f, .ref a_e, .ref a_r, .ref a_c, .ref a_p, .ref a_h, .ref a_t, .ref a_q])), (a_i, .inr (3, [.ref a_i_bytes, .int i_filled_3, .int i_length, .int i_kind, .int i_start, .int i_stop, .int i_value, .int i_errorCode, .int i_errorStart])), (a_i_bytes, .inl (cI, 800, .inl i_bytes_3)), (a_p1, .inl (cI, n_p1, .inl p1_3))] ++ []) := hD
  refine lv_aload_n hx hb dL_with_6 rfl (lv_at hl 0 rfl) ?_
  refine lv_aload_n hx hb dL_with_7 rfl (lv_at hl 1 rfl) ?_
  refine lv_iload_n hx hb dL_with_8 rfl (lv_at hl 3 rfl) ?_
  obtain ⟨⟨i_bytes_9, i_filled_9, p1_9⟩, h9, hf⟩ := ob_s hf
  have hf := uc3_e hf
  refine gxSQ (index := 84) S htg hE hG (c_L_number a_x a_i a_f a_e a_r a_c a_p a_h a_t a_q a_i_bytes a_p1 i_filled_3 i_length i_kind i_start i_stop i_value i_errorCode i_errorStart i_bytes_3 p1_3 n_p1 hn_p1 v3 i_bytes_9 i_filled_9 p1_9 h9) mL_number tw706 ⟨Nat.le_of_ble_eq_true rfl, Nat.le_of_ble_eq_true rfl⟩ hP hD hS hA ⟨Nat.zero_le _, Nat.zero_le _⟩ (X := [(a_x, .inr (9, [.ref a_i, .ref a_f, .ref a_e, .ref a_r, .ref a_c, .ref a_p, .ref a_h, .ref a_t, .ref a_q])), (a_i, .inr (3, [.ref a_i_bytes, .int i_filled_3, .int i_length, .int i_kind, .int i_start, .int i_stop, .int i_value, .int i_errorCode, .int i_errorStart])), (a_i_bytes, .inl (cI, 800, .inl i_bytes_3)), (a_p1, .inl (cI, n_p1, .inl p1_3))]) (cx := [(a_x, .inr (9, [.ref a_i, .ref a_f, .ref a_e, .ref a_r, .ref a_c, .ref a_p, .ref a_h, .ref a_t, .ref a_q])), (a_i, .inr (3, [.ref a_i_bytes, .int i_filled_3, .int i_length, .int i_kind, .int i_start, .int i_stop, .int i_value, .int i_errorCode, .int i_errorStart])), (a_i_bytes, .inl (cI, 800, .inl i_bytes_3)), (a_p1, .inl (cI, n_p1, .inl p1_3))]) (pl := []) (wr := []) [0, 1, 2, 3] [] rfl rfl rfl rfl (by decide) (As := [.ref a_x, .ref a_p1, .int v3]) (rest := []) rfl hl.1 rfl (Nat.le_of_ble_eq_true rfl) dL_with_9 (fun H locs xx9 hP hD hS => ?_)
  refine W.eq (g2 := F0 m 12 ls []) rfl ?_
  have hP : va_P (dC, dI) vwCl ([(a_x, .inr (9, [.ref a_i, .ref a_f, .ref a_e, .ref a_r, .ref a_c, .ref a_p, .ref a_h, .ref a_t, .ref a_q])), (a_i, .inr (3, [.ref a_i_bytes, .int i_filled_9, .int i_length, .int i_kind, .int i_start, .int i_stop, .int i_value, .int i_errorCode, .int i_errorStart])), (a_i_bytes, .inl (cI, 800, .inl i_bytes_9)), (a_p1, .inl (cI, n_p1, .inl p1_9))] ++ []) H := hP
  have hD : va_D A ([(a_x, .inr (9, [.ref a_i, .ref a_f, .ref a_e, .ref a_r, .ref a_c, .ref a_p, .ref a_h, .ref a_t, .ref a_q])), (a_i, .inr (3, [.ref a_i_bytes, .int i_filled_9, .int i_length, .int i_kind, .int i_start, .int i_stop, .int i_value, .int i_errorCode, .int i_errorStart])), (a_i_bytes, .inl (cI, 800, .inl i_bytes_9)), (a_p1, .inl (cI, n_p1, .inl p1_9))] ++ []) := hD
  cases hf
  exact g_vretX S hr hlocks (adV, fun _ => none, fun _ _ => 0) hP hD hS (Nat.le_refl _) (Nat.le_refl _) dL_with_12
set_option maxHeartbeats 4000000 in
set_option maxRecDepth 100000 in
theorem c_L_name (a_x a_i a_f a_e a_r a_c a_p a_h a_t a_q a_i_bytes a_n a_n_year a_n_parents a_n_letters a_n_union a_n_order a_n_gens a_n_levels a_n_kins a_n_col a_p1 : Nat) (i_filled : Int32) (i_length : Int32) (i_kind : Int32) (i_start : Int32) (i_stop : Int32) (i_value : Int32) (i_errorCode : Int32) (i_errorStart : Int32) (n_persons : Int32) (n_unions : Int32) (n_rows : Int32) (i_bytes : Nat → Int32) (n_letters : Nat → Int32) (p1 : Nat → Int32) (n_p1 : Nat) (hn_p1 : n_p1 < 2147483648) (v3 : Int32) (i_bytes_9 : Nat → Int32) (i_filled_9 : Int32) (p1_9 : Nat → Int32) (hf : pL_name n_p1 i_filled i_bytes n_letters p1 v3 = some (i_bytes_9, i_filled_9, p1_9)) : gXM l dC dI cI cJ cZ cK adK adV yL_name cL_name 5 none (4) (92) 0 0 [.ref a_x, .ref a_p1, .ref a_n, .int v3] ([(a_x, .inr (9, [.ref a_i, .ref a_f, .ref a_e, .ref a_r, .ref a_c, .ref a_p, .ref a_h, .ref a_t, .ref a_q])), (a_i, .inr (3, [.ref a_i_bytes, .int i_filled, .int i_length, .int i_kind, .int i_start, .int i_stop, .int i_value, .int i_errorCode, .int i_errorStart])), (a_n, .inr (10, [.int n_persons, .int n_unions, .ref a_n_year, .ref a_n_parents, .ref a_n_letters, .ref a_n_union, .ref a_n_order, .int n_rows, .ref a_n_gens, .ref a_n_levels, .ref a_n_kins, .ref a_n_col])), (a_i_bytes, .inl (cI, 800, .inl i_bytes)), (a_n_letters, .inl (cI, 16, .inl n_letters)), (a_p1, .inl (cI, n_p1, .inl p1))] ++ []) (fun _ : EX => ([(a_x, .inr (9, [.ref a_i, .ref a_f, .ref a_e, .ref a_r, .ref a_c, .ref a_p, .ref a_h, .ref a_t, .ref a_q])), (a_i, .inr (3, [.ref a_i_bytes, .int i_filled_9, .int i_length, .int i_kind, .int i_start, .int i_stop, .int i_value, .int i_errorCode, .int i_errorStart])), (a_n, .inr (10, [.int n_persons, .int n_unions, .ref a_n_year, .ref a_n_parents, .ref a_n_letters, .ref a_n_union, .ref a_n_order, .int n_rows, .ref a_n_gens, .ref a_n_levels, .ref a_n_kins, .ref a_n_col])), (a_i_bytes, .inl (cI, 800, .inl i_bytes_9)), (a_n_letters, .inl (cI, 16, .inl n_letters)), (a_p1, .inl (cI, n_p1, .inl p1_9))] ++ [])) (fun _ => none) := by
  refine g_startX (own := RL) (by decide +kernel) rfl (Nat.le_of_ble_eq_true rfl) ?_
  intro p e s m below meth c A ls S hr hlocks hE hG hP hD hS hA hl hin
  have hFU : FU = 1024 := rfl
  have hx := S.1
  have hb := S.2.1
  have hml := S.2.2.1
  have hown := S.2.2.2.1
  have htg : ∀ z ∈ gw, z.before ([.ref a_x, .ref a_p1, .ref a_n, .int v3] : List Value).toArray s = true := fun w h => S.2.2.2.2 w (List.mem_cons_of_mem _ h)
  have hl : lv_has ls 5 [(0, .ref a_x), (1, .ref a_p1), (2, .ref a_n), (3, .int v3)] := hl
  have hS0 := hS
  obtain ⟨H, hH⟩ : ∃ H, H = s.heap := ⟨_, rfl⟩
  obtain ⟨locs, hlc⟩ : ∃ locs : List Loc, locs = [] := ⟨_, rfl⟩
  have hS : va_S A s.heap H locs := by rw [hH, hlc]; exact hS0
  have hP : va_P (dC, dI) vwCl ([(a_x, .inr (9, [.ref a_i, .ref a_f, .ref a_e, .ref a_r, .ref a_c, .ref a_p, .ref a_h, .ref a_t, .ref a_q])), (a_i, .inr (3, [.ref a_i_bytes, .int i_filled, .int i_length, .int i_kind, .int i_start, .int i_stop, .int i_value, .int i_errorCode, .int i_errorStart])), (a_n, .inr (10, [.int n_persons, .int n_unions, .ref a_n_year, .ref a_n_parents, .ref a_n_letters, .ref a_n_union, .ref a_n_order, .int n_rows, .ref a_n_gens, .ref a_n_levels, .ref a_n_kins, .ref a_n_col])), (a_i_bytes, .inl (cI, 800, .inl i_bytes)), (a_n_letters, .inl (cI, 16, .inl n_letters)), (a_p1, .inl (cI, n_p1, .inl p1))] ++ []) H := by rw [hH]; exact hP
  suffices hgo : W p l e ({ frames := 4, cells := 0, slots := 0, locals := 92 }) s m ([.ref a_x, .ref a_p1, .ref a_n, .int v3] : List Value).toArray below meth c H locs 0 0 (MQ below (gXQ dC dI (fun _ => none) A (fun _ : EX => ([(a_x, .inr (9, [.ref a_i, .ref a_f, .ref a_e, .ref a_r, .ref a_c, .ref a_p, .ref a_h, .ref a_t, .ref a_q])), (a_i, .inr (3, [.ref a_i_bytes, .int i_filled_9, .int i_length, .int i_kind, .int i_start, .int i_stop, .int i_value, .int i_errorCode, .int i_errorStart])), (a_n, .inr (10, [.int n_persons, .int n_unions, .ref a_n_year, .ref a_n_parents, .ref a_n_letters, .ref a_n_union, .ref a_n_order, .int n_rows, .ref a_n_gens, .ref a_n_levels, .ref a_n_kins, .ref a_n_col])), (a_i_bytes, .inl (cI, 800, .inl i_bytes_9)), (a_n_letters, .inl (cI, 16, .inl n_letters)), (a_p1, .inl (cI, n_p1, .inl p1_9))] ++ []))) ([.ref a_x, .ref a_p1, .ref a_n, .int v3] : List Value).toArray s 0 0 A) (F0 m 0 ls []) by rw [hH, hlc] at hgo; exact hgo
  rw [pL_name] at hf
  have J32 : ∀ (i_filled_32 : Int32) (i_bytes_32 : Nat → Int32) (p1_32 : Nat → Int32) (H : Heap) (locs : List Loc) (ls : Array Slot), pL_name_J32 i_filled_32 i_bytes_32 p1_32 = some (i_bytes_9, i_filled_9, p1_9) → va_P (dC, dI) vwCl ([(a_x, .inr (9, [.ref a_i, .ref a_f, .ref a_e, .ref a_r, .ref a_c, .ref a_p, .ref a_h, .ref a_t, .ref a_q])), (a_i, .inr (3, [.ref a_i_bytes, .int i_filled_32, .int i_length, .int i_kind, .int i_start, .int i_stop, .int i_value, .int i_errorCode, .int i_errorStart])), (a_n, .inr (10, [.int n_persons, .int n_unions, .ref a_n_year, .ref a_n_parents, .ref a_n_letters, .ref a_n_union, .ref a_n_order, .int n_rows, .ref a_n_gens, .ref a_n_levels, .ref a_n_kins, .ref a_n_col])), (a_i_bytes, .inl (cI, 800, .inl i_bytes_32)), (a_n_letters, .inl (cI, 16, .inl n_letters)), (a_p1, .inl (cI, n_p1, .inl p1_32))] ++ []) H → va_D A ([(a_x, .inr (9, [.ref a_i, .ref a_f, .ref a_e, .ref a_r, .ref a_c, .ref a_p, .ref a_h, .ref a_t, .ref a_q])), (a_i, .inr (3, [.ref a_i_bytes, .int i_filled_32, .int i_length, .int i_kind, .int i_start, .int i_stop, .int i_value, .int i_errorCode, .int i_errorStart])), (a_n, .inr (10, [.int n_persons, .int n_unions, .ref a_n_year, .ref a_n_parents, .ref a_n_letters, .ref a_n_union, .ref a_n_order, .int n_rows, .ref a_n_gens, .ref a_n_levels, .ref a_n_kins, .ref a_n_col])), (a_i_bytes, .inl (cI, 800, .inl i_bytes_32)), (a_n_letters, .inl (cI, 16, .inl n_letters)), (a_p1, .inl (cI, n_p1, .inl p1_32))] ++ []) → va_S A s.heap H locs → lv_has ls 5 [] → W p l e ({ frames := 4, cells := 0, slots := 0, locals := 92 }) s m ([.ref a_x, .ref a_p1, .ref a_n, .int v3] : List Value).toArray below meth c H locs 0 0 (MQ below (gXQ dC dI (fun _ => none) A (fun _ : EX => ([(a_x, .inr (9, [.ref a_i, .ref a_f, .ref a_e, .ref a_r, .ref a_c, .ref a_p, .ref a_h, .ref a_t, .ref a_q])), (a_i, .inr (3, [.ref a_i_bytes, .int i_filled_9, .int i_length, .int i_kind, .int i_start, .int i_stop, .int i_value, .int i_errorCode, .int i_errorStart])), (a_n, .inr (10, [.int n_persons, .int n_unions, .ref a_n_year, .ref a_n_parents, .ref a_n_letters, .ref a_n_union, .ref a_n_order, .int n_rows, .ref a_n_gens, .ref a_n_levels, .ref a_n_kins, .ref a_n_col])), (a_i_bytes, .inl (cI, 800, .inl i_bytes_9)), (a_n_letters, .inl (cI, 16, .inl n_letters)), (a_p1, .inl (cI, n_p1, .inl p1_9))] ++ []))) ([.ref a_x, .ref a_p1, .ref a_n, .int v3] : List Value).toArray s 0 0 A) (F0 m 32 ls []) := by
    intro i_filled_32 i_bytes_32 p1_32 H locs ls hf hP hD hS hl
    rw [pL_name_J32] at hf
    cases hf
    exact g_vretX S hr hlocks (adV, fun _ => none, fun _ _ => 0) hP hD hS (Nat.le_refl _) (Nat.le_refl _) dL_name_32
  refine lv_iconst (v := 0) hx hb dL_name_0 (by decide) ?_
  refine lv_istore (lv' := [(4, .int (0 : Int32)), (0, .ref a_x), (1, .ref a_p1), (2, .ref a_n), (3, .int v3)]) hx hb dL_name_1 hl (by decide) rfl (fun ls hl => ?_)
  have K3 : ∀ (n3 : Nat) (v4_3 : Int32) (i_bytes_3 : Nat → Int32) (i_filled_3 : Int32) (p1_3 : Nat → Int32) (ex3 : (Nat → Int32) × Int32 × (Nat → Int32)) (H : Heap) (locs : List Loc) (ls : Array Slot), pL_name_L3 n_letters n_p1 v3 n3 v4_3 i_bytes_3 i_filled_3 p1_3 = some ex3 → (uc3 fun i_bytes_x3 i_filled_x3 p1_x3 => pL_name_J32 i_filled_x3 i_bytes_x3 p1_x3) ex3 = some (i_bytes_9, i_filled_9, p1_9) → va_P (dC, dI) vwCl ([(a_x, .inr (9, [.ref a_i, .ref a_f, .ref a_e, .ref a_r, .ref a_c, .ref a_p, .ref a_h, .ref a_t, .ref a_q])), (a_i, .inr (3, [.ref a_i_bytes, .int i_filled_3, .int i_length, .int i_kind, .int i_start, .int i_stop, .int i_value, .int i_errorCode, .int i_errorStart])), (a_n, .inr (10, [.int n_persons, .int n_unions, .ref a_n_year, .ref a_n_parents, .ref a_n_letters, .ref a_n_union, .ref a_n_order, .int n_rows, .ref a_n_gens, .ref a_n_levels, .ref a_n_kins, .ref a_n_col])), (a_i_bytes, .inl (cI, 800, .inl i_bytes_3)), (a_n_letters, .inl (cI, 16, .inl n_letters)), (a_p1, .inl (cI, n_p1, .inl p1_3))] ++ []) H → va_D A ([(a_x, .inr (9, [.ref a_i, .ref a_f, .ref a_e, .ref a_r, .ref a_c, .ref a_p, .ref a_h, .ref a_t, .ref a_q])), (a_i, .inr (3, [.ref a_i_bytes, .int i_filled_3, .int i_length, .int i_kind, .int i_start, .int i_stop, .int i_value, .int i_errorCode, .int i_errorStart])), (a_n, .inr (10, [.int n_persons, .int n_unions, .ref a_n_year, .ref a_n_parents, .ref a_n_letters, .ref a_n_union, .ref a_n_order, .int n_rows, .ref a_n_gens, .ref a_n_levels, .ref a_n_kins, .ref a_n_col])), (a_i_bytes, .inl (cI, 800, .inl i_bytes_3)), (a_n_letters, .inl (cI, 16, .inl n_letters)), (a_p1, .inl (cI, n_p1, .inl p1_3))] ++ []) → va_S A s.heap H locs → lv_has ls 5 [(0, .ref a_x), (1, .ref a_p1), (2, .ref a_n), (3, .int v3), (4, .int v4_3)] → W p l e ({ frames := 4, cells := 0, slots := 0, locals := 92 }) s m ([.ref a_x, .ref a_p1, .ref a_n, .int v3] : List Value).toArray below meth c H locs 0 0 (MQ below (gXQ dC dI (fun _ => none) A (fun _ : EX => ([(a_x, .inr (9, [.ref a_i, .ref a_f, .ref a_e, .ref a_r, .ref a_c, .ref a_p, .ref a_h, .ref a_t, .ref a_q])), (a_i, .inr (3, [.ref a_i_bytes, .int i_filled_9, .int i_length, .int i_kind, .int i_start, .int i_stop, .int i_value, .int i_errorCode, .int i_errorStart])), (a_n, .inr (10, [.int n_persons, .int n_unions, .ref a_n_year, .ref a_n_parents, .ref a_n_letters, .ref a_n_union, .ref a_n_order, .int n_rows, .ref a_n_gens, .ref a_n_levels, .ref a_n_kins, .ref a_n_col])), (a_i_bytes, .inl (cI, 800, .inl i_bytes_9)), (a_n_letters, .inl (cI, 16, .inl n_letters)), (a_p1, .inl (cI, n_p1, .inl p1_9))] ++ []))) ([.ref a_x, .ref a_p1, .ref a_n, .int v3] : List Value).toArray s 0 0 A) (F0 m 3 ls []) := by
    intro n3
    induction n3 with
    | zero => intro v4_3 i_bytes_3 i_filled_3 p1_3 ex3 H locs ls hf; rw [pL_name_L3] at hf; cases hf
    | succ n3 ih3 =>
      intro v4_3 i_bytes_3 i_filled_3 p1_3 ex3 H locs ls hf hk3 hP hD hS hl
      rw [pL_name_L3, pL_name_L3_B] at hf
      refine lv_iload hx hb dL_name_3 (lv_at hl 4 rfl) ?_
      refine lv_aload_n hx hb dL_name_5 rfl (lv_at hl 2 rfl) ?_
      refine va_getN (D := (dC, dI)) (ci := 10) (v := .ref a_n_letters) (C := RX10) (T := TX10) (N := 12) hx hb htg inX10 hown hE.1 hP 2 rfl rfl 4 (by decide) (va_Nw.use rfl (hG.2.1 (.fieldLinkNest "FamilyChartLaw" 42 "FamilyChartLaw$Own" "letters" "[I" "FamilyChartLaw") (List.mem_of_getElem? (i := 4) rfl))) (fun _ h9 => h9) rfl dL_name_6 ?_
      refine lv_iload_n hx hb dL_name_9 rfl (lv_at hl 3 rfl) ?_
      obtain ⟨h9, hf⟩ := gd_s hf
      refine va_iald hx hb hE.1 hP 4 0 rfl rfl h9 dL_name_10 ?_
      refine lv_icmp_ge (tgt := 32) hx hb dL_name_11 (by decide) (fun h9 => ?_) (fun h9 => ?_)
      · have hf := itt h9 hf
        cases hf
        have hf := hk3
        have hf := uc3_e hf
        exact J32 i_filled_3 i_bytes_3 p1_3 H locs ls hf hP hD hS (lv_sub hl [] rfl)
      · have hf := itf h9 hf
        refine lv_aload_n hx hb dL_name_14 rfl (lv_at hl 0 rfl) ?_
        refine lv_aload_n hx hb dL_name_15 rfl (lv_at hl 1 rfl) ?_
        refine lv_aload_n hx hb dL_name_16 rfl (lv_at hl 2 rfl) ?_
        refine lv_iload_n hx hb dL_name_17 rfl (lv_at hl 3 rfl) ?_
        refine lv_iload hx hb dL_name_18 (lv_at hl 4 rfl) ?_
        refine gxNQ (index := 87) (host := "FamilyChartLaw") S htg hE hG (c_X10_name a_n a_n_year a_n_parents a_n_letters a_n_union a_n_order a_n_gens a_n_levels a_n_kins a_n_col n_persons n_unions n_rows v3 v4_3 (p10_name v3 v4_3) rfl) mX10_name nw18 ⟨Nat.le_of_ble_eq_true rfl, Nat.le_of_ble_eq_true rfl⟩ hP hD hS hA ⟨Nat.zero_le _, Nat.zero_le _⟩ 2 10 rfl rfl rfl (X := [(a_x, .inr (9, [.ref a_i, .ref a_f, .ref a_e, .ref a_r, .ref a_c, .ref a_p, .ref a_h, .ref a_t, .ref a_q])), (a_i, .inr (3, [.ref a_i_bytes, .int i_filled_3, .int i_length, .int i_kind, .int i_start, .int i_stop, .int i_value, .int i_errorCode, .int i_errorStart])), (a_n, .inr (10, [.int n_persons, .int n_unions, .ref a_n_year, .ref a_n_parents, .ref a_n_letters, .ref a_n_union, .ref a_n_order, .int n_rows, .ref a_n_gens, .ref a_n_levels, .ref a_n_kins, .ref a_n_col])), (a_i_bytes, .inl (cI, 800, .inl i_bytes_3)), (a_n_letters, .inl (cI, 16, .inl n_letters)), (a_p1, .inl (cI, n_p1, .inl p1_3))]) (cx := [(a_n, .inr (10, [.int n_persons, .int n_unions, .ref a_n_year, .ref a_n_parents, .ref a_n_letters, .ref a_n_union, .ref a_n_order, .int n_rows, .ref a_n_gens, .ref a_n_levels, .ref a_n_kins, .ref a_n_col]))]) (pl := []) (wr := [(a_x, .inr (9, [.ref a_i, .ref a_f, .ref a_e, .ref a_r, .ref a_c, .ref a_p, .ref a_h, .ref a_t, .ref a_q])), (a_i, .inr (3, [.ref a_i_bytes, .int i_filled_3, .int i_length, .int i_kind, .int i_start, .int i_stop, .int i_value, .int i_errorCode, .int i_errorStart])), (a_i_bytes, .inl (cI, 800, .inl i_bytes_3)), (a_n_letters, .inl (cI, 16, .inl n_letters)), (a_p1, .inl (cI, n_p1, .inl p1_3))]) [2] [0, 1, 3, 4, 5] rfl rfl rfl rfl (by decide) (As := [.int v3, .int v4_3]) (rest := [.ref a_p1, .ref a_x]) rfl hl.1 rfl (Nat.le_of_ble_eq_true rfl) dL_name_20 (fun H locs xx20 hP hD hS => ?_)
        refine W.eq (g2 := F0 m 23 ls [.int (p10_name v3 v4_3), .ref a_p1, .ref a_x]) rfl ?_
        have hP : va_P (dC, dI) vwCl ([(a_x, .inr (9, [.ref a_i, .ref a_f, .ref a_e, .ref a_r, .ref a_c, .ref a_p, .ref a_h, .ref a_t, .ref a_q])), (a_i, .inr (3, [.ref a_i_bytes, .int i_filled_3, .int i_length, .int i_kind, .int i_start, .int i_stop, .int i_value, .int i_errorCode, .int i_errorStart])), (a_i_bytes, .inl (cI, 800, .inl i_bytes_3)), (a_n_letters, .inl (cI, 16, .inl n_letters)), (a_p1, .inl (cI, n_p1, .inl p1_3)), (a_n, .inr (10, [.int n_persons, .int n_unions, .ref a_n_year, .ref a_n_parents, .ref a_n_letters, .ref a_n_union, .ref a_n_order, .int n_rows, .ref a_n_gens, .ref a_n_levels, .ref a_n_kins, .ref a_n_col]))] ++ []) H := hP
        have hD : va_D A ([(a_x, .inr (9, [.ref a_i, .ref a_f, .ref a_e, .ref a_r, .ref a_c, .ref a_p, .ref a_h, .ref a_t, .ref a_q])), (a_i, .inr (3, [.ref a_i_bytes, .int i_filled_3, .int i_length, .int i_kind, .int i_start, .int i_stop, .int i_value, .int i_errorCode, .int i_errorStart])), (a_i_bytes, .inl (cI, 800, .inl i_bytes_3)), (a_n_letters, .inl (cI, 16, .inl n_letters)), (a_p1, .inl (cI, n_p1, .inl p1_3)), (a_n, .inr (10, [.int n_persons, .int n_unions, .ref a_n_year, .ref a_n_parents, .ref a_n_letters, .ref a_n_union, .ref a_n_order, .int n_rows, .ref a_n_gens, .ref a_n_levels, .ref a_n_kins, .ref a_n_col]))] ++ []) := hD
        obtain ⟨⟨i_bytes_23, i_filled_23, p1_23⟩, h9, hf⟩ := ob_s hf
        have hf := uc3_e hf
        refine gxSQ (index := 14) S htg hE hG (c_L_add a_x a_i a_f a_e a_r a_c a_p a_h a_t a_q a_i_bytes a_p1 i_filled_3 i_length i_kind i_start i_stop i_value i_errorCode i_errorStart i_bytes_3 p1_3 n_p1 hn_p1 (p10_name v3 v4_3) i_bytes_23 i_filled_23 p1_23 h9) mL_add tw679 ⟨Nat.le_of_ble_eq_true rfl, Nat.le_of_ble_eq_true rfl⟩ hP hD hS hA ⟨Nat.zero_le _, Nat.zero_le _⟩ (X := [(a_x, .inr (9, [.ref a_i, .ref a_f, .ref a_e, .ref a_r, .ref a_c, .ref a_p, .ref a_h, .ref a_t, .ref a_q])), (a_i, .inr (3, [.ref a_i_bytes, .int i_filled_3, .int i_length, .int i_kind, .int i_start, .int i_stop, .int i_value, .int i_errorCode, .int i_errorStart])), (a_i_bytes, .inl (cI, 800, .inl i_bytes_3)), (a_n_letters, .inl (cI, 16, .inl n_letters)), (a_p1, .inl (cI, n_p1, .inl p1_3)), (a_n, .inr (10, [.int n_persons, .int n_unions, .ref a_n_year, .ref a_n_parents, .ref a_n_letters, .ref a_n_union, .ref a_n_order, .int n_rows, .ref a_n_gens, .ref a_n_levels, .ref a_n_kins, .ref a_n_col]))]) (cx := [(a_x, .inr (9, [.ref a_i, .ref a_f, .ref a_e, .ref a_r, .ref a_c, .ref a_p, .ref a_h, .ref a_t, .ref a_q])), (a_i, .inr (3, [.ref a_i_bytes, .int i_filled_3, .int i_length, .int i_kind, .int i_start, .int i_stop, .int i_value, .int i_errorCode, .int i_errorStart])), (a_i_bytes, .inl (cI, 800, .inl i_bytes_3)), (a_p1, .inl (cI, n_p1, .inl p1_3))]) (pl := []) (wr := [(a_n_letters, .inl (cI, 16, .inl n_letters)), (a_n, .inr (10, [.int n_persons, .int n_unions, .ref a_n_year, .ref a_n_parents, .ref a_n_letters, .ref a_n_union, .ref a_n_order, .int n_rows, .ref a_n_gens, .ref a_n_levels, .ref a_n_kins, .ref a_n_col]))]) [0, 1, 2, 4] [3, 5] rfl rfl rfl rfl (by decide) (As := [.ref a_x, .ref a_p1, .int (p10_name v3 v4_3)]) (rest := []) rfl hl.1 rfl (Nat.le_of_ble_eq_true rfl) dL_name_23 (fun H locs xx23 hP hD hS => ?_)
        refine W.eq (g2 := F0 m 26 ls []) rfl ?_
        have hP : va_P (dC, dI) vwCl ([(a_n_letters, .inl (cI, 16, .inl n_letters)), (a_n, .inr (10, [.int n_persons, .int n_unions, .ref a_n_year, .ref a_n_parents, .ref a_n_letters, .ref a_n_union, .ref a_n_order, .int n_rows, .ref a_n_gens, .ref a_n_levels, .ref a_n_kins, .ref a_n_col])), (a_x, .inr (9, [.ref a_i, .ref a_f, .ref a_e, .ref a_r, .ref a_c, .ref a_p, .ref a_h, .ref a_t, .ref a_q])), (a_i, .inr (3, [.ref a_i_bytes, .int i_filled_23, .int i_length, .int i_kind, .int i_start, .int i_stop, .int i_value, .int i_errorCode, .int i_errorStart])), (a_i_bytes, .inl (cI, 800, .inl i_bytes_23)), (a_p1, .inl (cI, n_p1, .inl p1_23))] ++ []) H := hP
        have hD : va_D A ([(a_n_letters, .inl (cI, 16, .inl n_letters)), (a_n, .inr (10, [.int n_persons, .int n_unions, .ref a_n_year, .ref a_n_parents, .ref a_n_letters, .ref a_n_union, .ref a_n_order, .int n_rows, .ref a_n_gens, .ref a_n_levels, .ref a_n_kins, .ref a_n_col])), (a_x, .inr (9, [.ref a_i, .ref a_f, .ref a_e, .ref a_r, .ref a_c, .ref a_p, .ref a_h, .ref a_t, .ref a_q])), (a_i, .inr (3, [.ref a_i_bytes, .int i_filled_23, .int i_length, .int i_kind, .int i_start, .int i_stop, .int i_value, .int i_errorCode, .int i_errorStart])), (a_i_bytes, .inl (cI, 800, .inl i_bytes_23)), (a_p1, .inl (cI, n_p1, .inl p1_23))] ++ []) := hD
        obtain ⟨t26, h9⟩ : ∃ z : Int32, z = (v4_3 + (1 : Int32)) := ⟨_, rfl⟩
        have hf := lb_e h9 hf
        refine lv_iinc (v := t26) (lv' := [(4, .int t26), (0, .ref a_x), (1, .ref a_p1), (2, .ref a_n), (3, .int v3)]) hx hb dL_name_26 hl (k := 4) rfl (by rw [h9]; rfl) (by decide) rfl (fun ls hl => ?_)
        refine lv_goto (tgt := 3) hx hb dL_name_29 (by decide) ?_
        exact ih3 t26 i_bytes_23 i_filled_23 p1_23 ex3 H locs ls hf hk3 (hP.part [2, 3, 1, 4, 0, 5] rfl) (hD.part [2, 3, 1, 4, 0, 5] rfl rfl) hS (lv_sub hl [1, 2, 3, 4, 0] rfl)
  obtain ⟨ex, h9, hf⟩ := ob_s hf
  exact K3 FU (0 : Int32) i_bytes i_filled p1 ex H locs ls h9 hf hP hD hS (lv_sub hl [1, 2, 3, 4, 0] rfl)
set_option maxHeartbeats 4000000 in
set_option maxRecDepth 100000 in
theorem c_L_known (a_n a_n_year a_n_parents a_n_letters a_n_union a_n_order a_n_gens a_n_levels a_n_kins a_n_col : Nat) (aw : Nat → Nat) (go : Nat → Option Nat) (kc : Nat → Nat → Int64) (n_persons : Int32) (n_unions : Int32) (n_rows : Int32) (n_un : Nat → Nat → Int32) (n_nu : Nat) (n_ln : Nat → Nat) (n_od : Nat → Nat → Int32) (n_no : Nat) (v1 : Int32) (v2 : Int32) (r9 : Bool) (hf : pL_known n_unions n_un n_nu v1 v2 = some r9) : gXM l dC dI cI cJ cZ cK adK adV yL_known cL_known 4 (some .boolean) (1) (22) 0 0 [.ref a_n, .int v1, .int v2] ([(a_n, .inr (10, [.int n_persons, .int n_unions, .ref a_n_year, .ref a_n_parents, .ref a_n_letters, .ref a_n_union, .ref a_n_order, .int n_rows, .ref a_n_gens, .ref a_n_levels, .ref a_n_kins, .ref a_n_col])), (a_n_kins, .inl (cK, 16, .inr (.inr (.inr (.inr (qK aw)))))), (a_n_order, .inl (cZ, 16, .inr (.inr (.inr (.inr (qO aw n_no go)))))), (a_n_union, .inl (cZ, 12, .inr (.inr (.inr (.inr (qU aw n_nu))))))] ++ rws cI cJ aw n_un n_nu n_ln n_od n_no kc) (fun _ : EX => ([(a_n, .inr (10, [.int n_persons, .int n_unions, .ref a_n_year, .ref a_n_parents, .ref a_n_letters, .ref a_n_union, .ref a_n_order, .int n_rows, .ref a_n_gens, .ref a_n_levels, .ref a_n_kins, .ref a_n_col])), (a_n_kins, .inl (cK, 16, .inr (.inr (.inr (.inr (qK aw)))))), (a_n_order, .inl (cZ, 16, .inr (.inr (.inr (.inr (qO aw n_no go)))))), (a_n_union, .inl (cZ, 12, .inr (.inr (.inr (.inr (qU aw n_nu))))))] ++ rws cI cJ aw n_un n_nu n_ln n_od n_no kc)) (fun _ => some (.int (bI r9))) := by
  refine g_startX (own := RL) (by decide +kernel) rfl (Nat.le_of_ble_eq_true rfl) ?_
  intro p e s m below meth c A ls S hr hlocks hE hG hP hD hS hA hl hin
  have hFU : FU = 1024 := rfl
  have hx := S.1
  have hb := S.2.1
  have hml := S.2.2.1
  have hown := S.2.2.2.1
  have htg : ∀ z ∈ gw, z.before ([.ref a_n, .int v1, .int v2] : List Value).toArray s = true := fun w h => S.2.2.2.2 w (List.mem_cons_of_mem _ h)
  have hl : lv_has ls 4 [(0, .ref a_n), (1, .int v1), (2, .int v2)] := hl
  have hS0 := hS
  obtain ⟨H, hH⟩ : ∃ H, H = s.heap := ⟨_, rfl⟩
  obtain ⟨locs, hlc⟩ : ∃ locs : List Loc, locs = [] := ⟨_, rfl⟩
  have hS : va_S A s.heap H locs := by rw [hH, hlc]; exact hS0
  have hP : va_P (dC, dI) vwCl ([(a_n, .inr (10, [.int n_persons, .int n_unions, .ref a_n_year, .ref a_n_parents, .ref a_n_letters, .ref a_n_union, .ref a_n_order, .int n_rows, .ref a_n_gens, .ref a_n_levels, .ref a_n_kins, .ref a_n_col])), (a_n_kins, .inl (cK, 16, .inr (.inr (.inr (.inr (qK aw)))))), (a_n_order, .inl (cZ, 16, .inr (.inr (.inr (.inr (qO aw n_no go)))))), (a_n_union, .inl (cZ, 12, .inr (.inr (.inr (.inr (qU aw n_nu))))))] ++ rws cI cJ aw n_un n_nu n_ln n_od n_no kc) H := by rw [hH]; exact hP
  suffices hgo : W p l e ({ frames := 1, cells := 0, slots := 0, locals := 22 }) s m ([.ref a_n, .int v1, .int v2] : List Value).toArray below meth c H locs 0 0 (MQ below (gXQ dC dI (fun _ => some (.int (bI r9))) A (fun _ : EX => ([(a_n, .inr (10, [.int n_persons, .int n_unions, .ref a_n_year, .ref a_n_parents, .ref a_n_letters, .ref a_n_union, .ref a_n_order, .int n_rows, .ref a_n_gens, .ref a_n_levels, .ref a_n_kins, .ref a_n_col])), (a_n_kins, .inl (cK, 16, .inr (.inr (.inr (.inr (qK aw)))))), (a_n_order, .inl (cZ, 16, .inr (.inr (.inr (.inr (qO aw n_no go)))))), (a_n_union, .inl (cZ, 12, .inr (.inr (.inr (.inr (qU aw n_nu))))))] ++ rws cI cJ aw n_un n_nu n_ln n_od n_no kc))) ([.ref a_n, .int v1, .int v2] : List Value).toArray s 0 0 A) (F0 m 0 ls []) by rw [hH, hlc] at hgo; exact hgo
  rw [pL_known] at hf
  have J36 : ∀  (H : Heap) (locs : List Loc) (ls : Array Slot), pL_known_J36  = some r9 → va_P (dC, dI) vwCl ([(a_n, .inr (10, [.int n_persons, .int n_unions, .ref a_n_year, .ref a_n_parents, .ref a_n_letters, .ref a_n_union, .ref a_n_order, .int n_rows, .ref a_n_gens, .ref a_n_levels, .ref a_n_kins, .ref a_n_col])), (a_n_kins, .inl (cK, 16, .inr (.inr (.inr (.inr (qK aw)))))), (a_n_order, .inl (cZ, 16, .inr (.inr (.inr (.inr (qO aw n_no go)))))), (a_n_union, .inl (cZ, 12, .inr (.inr (.inr (.inr (qU aw n_nu))))))] ++ rws cI cJ aw n_un n_nu n_ln n_od n_no kc) H → va_D A ([(a_n, .inr (10, [.int n_persons, .int n_unions, .ref a_n_year, .ref a_n_parents, .ref a_n_letters, .ref a_n_union, .ref a_n_order, .int n_rows, .ref a_n_gens, .ref a_n_levels, .ref a_n_kins, .ref a_n_col])), (a_n_kins, .inl (cK, 16, .inr (.inr (.inr (.inr (qK aw)))))), (a_n_order, .inl (cZ, 16, .inr (.inr (.inr (.inr (qO aw n_no go)))))), (a_n_union, .inl (cZ, 12, .inr (.inr (.inr (.inr (qU aw n_nu))))))] ++ rws cI cJ aw n_un n_nu n_ln n_od n_no kc) → va_S A s.heap H locs → lv_has ls 4 [] → W p l e ({ frames := 1, cells := 0, slots := 0, locals := 22 }) s m ([.ref a_n, .int v1, .int v2] : List Value).toArray below meth c H locs 0 0 (MQ below (gXQ dC dI (fun _ => some (.int (bI r9))) A (fun _ : EX => ([(a_n, .inr (10, [.int n_persons, .int n_unions, .ref a_n_year, .ref a_n_parents, .ref a_n_letters, .ref a_n_union, .ref a_n_order, .int n_rows, .ref a_n_gens, .ref a_n_levels, .ref a_n_kins, .ref a_n_col])), (a_n_kins, .inl (cK, 16, .inr (.inr (.inr (.inr (qK aw)))))), (a_n_order, .inl (cZ, 16, .inr (.inr (.inr (.inr (qO aw n_no go)))))), (a_n_union, .inl (cZ, 12, .inr (.inr (.inr (.inr (qU aw n_nu))))))] ++ rws cI cJ aw n_un n_nu n_ln n_od n_no kc))) ([.ref a_n, .int v1, .int v2] : List Value).toArray s 0 0 A) (F0 m 36 ls []) := by
    intro  H locs ls hf hP hD hS hl
    rw [pL_known_J36] at hf
    refine lv_iconst (v := 0) hx hb dL_known_36 (by decide) ?_
    cases hf
    exact g_zretX S hr (nar_bI false) hlocks (adV, fun _ => none, fun _ _ => 0) hP hD hS (Nat.le_refl _) (Nat.le_refl _) dL_known_37
  refine lv_iconst (v := 0) hx hb dL_known_0 (by decide) ?_
  refine lv_istore_n (lv' := [(3, .int (0 : Int32)), (0, .ref a_n), (1, .int v1), (2, .int v2)]) hx hb dL_known_1 rfl hl (by decide) rfl (fun ls hl => ?_)
  have K2 : ∀ (n2 : Nat) (v3_2 : Int32) (ex2 : (Bool) ⊕ (Unit)) (H : Heap) (locs : List Loc) (ls : Array Slot), pL_known_L2 n_nu n_un n_unions v1 v2 n2 v3_2 = some ex2 → oc ex2 (fun r_x2 => some r_x2) (fun _ => pL_known_J36) = some r9 → va_P (dC, dI) vwCl ([(a_n, .inr (10, [.int n_persons, .int n_unions, .ref a_n_year, .ref a_n_parents, .ref a_n_letters, .ref a_n_union, .ref a_n_order, .int n_rows, .ref a_n_gens, .ref a_n_levels, .ref a_n_kins, .ref a_n_col])), (a_n_kins, .inl (cK, 16, .inr (.inr (.inr (.inr (qK aw)))))), (a_n_order, .inl (cZ, 16, .inr (.inr (.inr (.inr (qO aw n_no go)))))), (a_n_union, .inl (cZ, 12, .inr (.inr (.inr (.inr (qU aw n_nu))))))] ++ rws cI cJ aw n_un n_nu n_ln n_od n_no kc) H → va_D A ([(a_n, .inr (10, [.int n_persons, .int n_unions, .ref a_n_year, .ref a_n_parents, .ref a_n_letters, .ref a_n_union, .ref a_n_order, .int n_rows, .ref a_n_gens, .ref a_n_levels, .ref a_n_kins, .ref a_n_col])), (a_n_kins, .inl (cK, 16, .inr (.inr (.inr (.inr (qK aw)))))), (a_n_order, .inl (cZ, 16, .inr (.inr (.inr (.inr (qO aw n_no go)))))), (a_n_union, .inl (cZ, 12, .inr (.inr (.inr (.inr (qU aw n_nu))))))] ++ rws cI cJ aw n_un n_nu n_ln n_od n_no kc) → va_S A s.heap H locs → lv_has ls 4 [(0, .ref a_n), (1, .int v1), (2, .int v2), (3, .int v3_2)] → W p l e ({ frames := 1, cells := 0, slots := 0, locals := 22 }) s m ([.ref a_n, .int v1, .int v2] : List Value).toArray below meth c H locs 0 0 (MQ below (gXQ dC dI (fun _ => some (.int (bI r9))) A (fun _ : EX => ([(a_n, .inr (10, [.int n_persons, .int n_unions, .ref a_n_year, .ref a_n_parents, .ref a_n_letters, .ref a_n_union, .ref a_n_order, .int n_rows, .ref a_n_gens, .ref a_n_levels, .ref a_n_kins, .ref a_n_col])), (a_n_kins, .inl (cK, 16, .inr (.inr (.inr (.inr (qK aw)))))), (a_n_order, .inl (cZ, 16, .inr (.inr (.inr (.inr (qO aw n_no go)))))), (a_n_union, .inl (cZ, 12, .inr (.inr (.inr (.inr (qU aw n_nu))))))] ++ rws cI cJ aw n_un n_nu n_ln n_od n_no kc))) ([.ref a_n, .int v1, .int v2] : List Value).toArray s 0 0 A) (F0 m 2 ls []) := by
    intro n2
    induction n2 with
    | zero => intro v3_2 ex2 H locs ls hf; rw [pL_known_L2] at hf; cases hf
    | succ n2 ih2 =>
      intro v3_2 ex2 H locs ls hf hk2 hP hD hS hl
      rw [pL_known_L2, pL_known_L2_B] at hf
      refine lv_iload_n hx hb dL_known_2 rfl (lv_at hl 3 rfl) ?_
      refine lv_aload_n hx hb dL_known_3 rfl (lv_at hl 0 rfl) ?_
      refine va_getN (D := (dC, dI)) (ci := 10) (v := .int n_unions) (C := RX10) (T := TX10) (N := 12) hx hb htg inX10 hown hE.1 hP 0 rfl rfl 1 (by decide) (va_Nw.use rfl (hG.2.1 (.fieldLinkNest "FamilyChartLaw" 53 "FamilyChartLaw$Own" "unions" "I" "FamilyChartLaw") (List.mem_of_getElem? (i := 1) rfl))) (fun _ h9 => h9) rfl dL_known_4 ?_
      refine lv_icmp_ge (tgt := 36) hx hb dL_known_7 (by decide) (fun h9 => ?_) (fun h9 => ?_)
      · have hf := itt h9 hf
        cases hf
        have hf := hk2
        dsimp only [oc] at hf
        exact J36 H locs ls hf hP hD hS (lv_sub hl [] rfl)
      · have hf := itf h9 hf
        refine lv_aload_n hx hb dL_known_10 rfl (lv_at hl 0 rfl) ?_
        refine lv_iload_n hx hb dL_known_11 rfl (lv_at hl 3 rfl) ?_
        refine lv_iload_n hx hb dL_known_12 rfl (lv_at hl 1 rfl) ?_
        obtain ⟨r13, h9, hf⟩ := ob_s hf
        refine gxNP (index := 62) (host := "FamilyChartLaw") S htg hE hG (c_X10_in a_n a_n_year a_n_parents a_n_letters a_n_union a_n_order a_n_gens a_n_levels a_n_kins a_n_col aw go kc n_persons n_unions n_rows n_un n_nu n_ln n_od n_no v3_2 v1 r13 h9) mX10_in nw14 ⟨Nat.le_of_ble_eq_true rfl, Nat.le_of_ble_eq_true rfl⟩ hP hD hS hA ⟨Nat.zero_le _, Nat.zero_le _⟩ 0 10 rfl rfl rfl (X := [(a_n, .inr (10, [.int n_persons, .int n_unions, .ref a_n_year, .ref a_n_parents, .ref a_n_letters, .ref a_n_union, .ref a_n_order, .int n_rows, .ref a_n_gens, .ref a_n_levels, .ref a_n_kins, .ref a_n_col])), (a_n_kins, .inl (cK, 16, .inr (.inr (.inr (.inr (qK aw)))))), (a_n_order, .inl (cZ, 16, .inr (.inr (.inr (.inr (qO aw n_no go)))))), (a_n_union, .inl (cZ, 12, .inr (.inr (.inr (.inr (qU aw n_nu))))))]) (cx := [(a_n, .inr (10, [.int n_persons, .int n_unions, .ref a_n_year, .ref a_n_parents, .ref a_n_letters, .ref a_n_union, .ref a_n_order, .int n_rows, .ref a_n_gens, .ref a_n_levels, .ref a_n_kins, .ref a_n_col])), (a_n_kins, .inl (cK, 16, .inr (.inr (.inr (.inr (qK aw)))))), (a_n_order, .inl (cZ, 16, .inr (.inr (.inr (.inr (qO aw n_no go)))))), (a_n_union, .inl (cZ, 12, .inr (.inr (.inr (.inr (qU aw n_nu))))))]) (pl := rws cI cJ aw n_un n_nu n_ln n_od n_no kc) (wr := []) [0, 1, 2, 3] [] rfl rfl rfl rfl (by decide) (As := [.int v3_2, .int v1]) (rest := []) rfl hl.1 rfl (Nat.le_of_ble_eq_true rfl) dL_known_13 (fun H locs xx13 hP hD hS => ?_)
        refine W.eq (g2 := F0 m 16 ls [.int (bI r13)]) rfl ?_
        have hP : va_P (dC, dI) vwCl ([(a_n, .inr (10, [.int n_persons, .int n_unions, .ref a_n_year, .ref a_n_parents, .ref a_n_letters, .ref a_n_union, .ref a_n_order, .int n_rows, .ref a_n_gens, .ref a_n_levels, .ref a_n_kins, .ref a_n_col])), (a_n_kins, .inl (cK, 16, .inr (.inr (.inr (.inr (qK aw)))))), (a_n_order, .inl (cZ, 16, .inr (.inr (.inr (.inr (qO aw n_no go)))))), (a_n_union, .inl (cZ, 12, .inr (.inr (.inr (.inr (qU aw n_nu))))))] ++ rws cI cJ aw n_un n_nu n_ln n_od n_no kc) H := hP
        have hD : va_D A ([(a_n, .inr (10, [.int n_persons, .int n_unions, .ref a_n_year, .ref a_n_parents, .ref a_n_letters, .ref a_n_union, .ref a_n_order, .int n_rows, .ref a_n_gens, .ref a_n_levels, .ref a_n_kins, .ref a_n_col])), (a_n_kins, .inl (cK, 16, .inr (.inr (.inr (.inr (qK aw)))))), (a_n_order, .inl (cZ, 16, .inr (.inr (.inr (.inr (qO aw n_no go)))))), (a_n_union, .inl (cZ, 12, .inr (.inr (.inr (.inr (qU aw n_nu))))))] ++ rws cI cJ aw n_un n_nu n_ln n_od n_no kc) := hD
        refine lv_if_eq (tgt := 30) hx hb dL_known_16 (by decide) (fun h9 => ?_) (fun h9 => ?_)
        · have hf := ctf (bI_0 h9) hf
          obtain ⟨t30, h9⟩ : ∃ z : Int32, z = (v3_2 + (1 : Int32)) := ⟨_, rfl⟩
          have hf := lb_e h9 hf
          refine lv_iinc (v := t30) (lv' := [(3, .int t30), (0, .ref a_n), (1, .int v1), (2, .int v2)]) hx hb dL_known_30 hl (k := 3) rfl (by rw [h9]; rfl) (by decide) rfl (fun ls hl => ?_)
          refine lv_goto (tgt := 2) hx hb dL_known_33 (by decide) ?_
          exact ih2 t30 ex2 H locs ls hf hk2 hP hD hS (lv_sub hl [1, 2, 3, 0] rfl)
        · have hf := ctt (bI_1 h9) hf
          refine lv_aload_n hx hb dL_known_19 rfl (lv_at hl 0 rfl) ?_
          refine lv_iload_n hx hb dL_known_20 rfl (lv_at hl 3 rfl) ?_
          refine lv_iload_n hx hb dL_known_21 rfl (lv_at hl 2 rfl) ?_
          obtain ⟨r22, h9, hf⟩ := ob_s hf
          refine gxNP (index := 62) (host := "FamilyChartLaw") S htg hE hG (c_X10_in a_n a_n_year a_n_parents a_n_letters a_n_union a_n_order a_n_gens a_n_levels a_n_kins a_n_col aw go kc n_persons n_unions n_rows n_un n_nu n_ln n_od n_no v3_2 v2 r22 h9) mX10_in nw14 ⟨Nat.le_of_ble_eq_true rfl, Nat.le_of_ble_eq_true rfl⟩ hP hD hS hA ⟨Nat.zero_le _, Nat.zero_le _⟩ 0 10 rfl rfl rfl (X := [(a_n, .inr (10, [.int n_persons, .int n_unions, .ref a_n_year, .ref a_n_parents, .ref a_n_letters, .ref a_n_union, .ref a_n_order, .int n_rows, .ref a_n_gens, .ref a_n_levels, .ref a_n_kins, .ref a_n_col])), (a_n_kins, .inl (cK, 16, .inr (.inr (.inr (.inr (qK aw)))))), (a_n_order, .inl (cZ, 16, .inr (.inr (.inr (.inr (qO aw n_no go)))))), (a_n_union, .inl (cZ, 12, .inr (.inr (.inr (.inr (qU aw n_nu))))))]) (cx := [(a_n, .inr (10, [.int n_persons, .int n_unions, .ref a_n_year, .ref a_n_parents, .ref a_n_letters, .ref a_n_union, .ref a_n_order, .int n_rows, .ref a_n_gens, .ref a_n_levels, .ref a_n_kins, .ref a_n_col])), (a_n_kins, .inl (cK, 16, .inr (.inr (.inr (.inr (qK aw)))))), (a_n_order, .inl (cZ, 16, .inr (.inr (.inr (.inr (qO aw n_no go)))))), (a_n_union, .inl (cZ, 12, .inr (.inr (.inr (.inr (qU aw n_nu))))))]) (pl := rws cI cJ aw n_un n_nu n_ln n_od n_no kc) (wr := []) [0, 1, 2, 3] [] rfl rfl rfl rfl (by decide) (As := [.int v3_2, .int v2]) (rest := []) rfl hl.1 rfl (Nat.le_of_ble_eq_true rfl) dL_known_22 (fun H locs xx22 hP hD hS => ?_)
          refine W.eq (g2 := F0 m 25 ls [.int (bI r22)]) rfl ?_
          have hP : va_P (dC, dI) vwCl ([(a_n, .inr (10, [.int n_persons, .int n_unions, .ref a_n_year, .ref a_n_parents, .ref a_n_letters, .ref a_n_union, .ref a_n_order, .int n_rows, .ref a_n_gens, .ref a_n_levels, .ref a_n_kins, .ref a_n_col])), (a_n_kins, .inl (cK, 16, .inr (.inr (.inr (.inr (qK aw)))))), (a_n_order, .inl (cZ, 16, .inr (.inr (.inr (.inr (qO aw n_no go)))))), (a_n_union, .inl (cZ, 12, .inr (.inr (.inr (.inr (qU aw n_nu))))))] ++ rws cI cJ aw n_un n_nu n_ln n_od n_no kc) H := hP
          have hD : va_D A ([(a_n, .inr (10, [.int n_persons, .int n_unions, .ref a_n_year, .ref a_n_parents, .ref a_n_letters, .ref a_n_union, .ref a_n_order, .int n_rows, .ref a_n_gens, .ref a_n_levels, .ref a_n_kins, .ref a_n_col])), (a_n_kins, .inl (cK, 16, .inr (.inr (.inr (.inr (qK aw)))))), (a_n_order, .inl (cZ, 16, .inr (.inr (.inr (.inr (qO aw n_no go)))))), (a_n_union, .inl (cZ, 12, .inr (.inr (.inr (.inr (qU aw n_nu))))))] ++ rws cI cJ aw n_un n_nu n_ln n_od n_no kc) := hD
          refine lv_if_eq (tgt := 30) hx hb dL_known_25 (by decide) (fun h9 => ?_) (fun h9 => ?_)
          · have hf := ctf (bI_0 h9) hf
            obtain ⟨t30, h9⟩ : ∃ z : Int32, z = (v3_2 + (1 : Int32)) := ⟨_, rfl⟩
            have hf := lb_e h9 hf
            refine lv_iinc (v := t30) (lv' := [(3, .int t30), (0, .ref a_n), (1, .int v1), (2, .int v2)]) hx hb dL_known_30 hl (k := 3) rfl (by rw [h9]; rfl) (by decide) rfl (fun ls hl => ?_)
            refine lv_goto (tgt := 2) hx hb dL_known_33 (by decide) ?_
            exact ih2 t30 ex2 H locs ls hf hk2 hP hD hS (lv_sub hl [1, 2, 3, 0] rfl)
          · have hf := ctt (bI_1 h9) hf
            refine lv_iconst (v := 1) hx hb dL_known_28 (by decide) ?_
            cases hf
            have hf := hk2
            dsimp only [oc] at hf
            cases hf
            exact g_zretX S hr (nar_bI true) hlocks (adV, fun _ => none, fun _ _ => 0) hP hD hS (Nat.le_refl _) (Nat.le_refl _) dL_known_29
  obtain ⟨ex, h9, hf⟩ := os_s hf
  exact K2 FU (0 : Int32) ex H locs ls h9 hf hP hD hS (lv_sub hl [1, 2, 3, 0] rfl)
set_option maxHeartbeats 4000000 in
set_option maxRecDepth 100000 in
theorem c_L_can (a_n a_n_year a_n_parents a_n_letters a_n_union a_n_order a_n_gens a_n_levels a_n_kins a_n_col : Nat) (aw : Nat → Nat) (go : Nat → Option Nat) (kc : Nat → Nat → Int64) (n_persons : Int32) (n_unions : Int32) (n_rows : Int32) (n_parents : Nat → Int32) (n_un : Nat → Nat → Int32) (n_nu : Nat) (n_ln : Nat → Nat) (n_od : Nat → Nat → Int32) (n_no : Nat) (v1 : Int32) (v2 : Int32) (r9 : Bool) (hf : pL_can n_parents n_un n_nu v1 v2 = some r9) : gXM l dC dI cI cJ cZ cK adK adV yL_can cL_can 3 (some .boolean) (85) (3550) 0 0 [.ref a_n, .int v1, .int v2] ([(a_n, .inr (10, [.int n_persons, .int n_unions, .ref a_n_year, .ref a_n_parents, .ref a_n_letters, .ref a_n_union, .ref a_n_order, .int n_rows, .ref a_n_gens, .ref a_n_levels, .ref a_n_kins, .ref a_n_col])), (a_n_kins, .inl (cK, 16, .inr (.inr (.inr (.inr (qK aw)))))), (a_n_order, .inl (cZ, 16, .inr (.inr (.inr (.inr (qO aw n_no go)))))), (a_n_parents, .inl (cI, 16, .inl n_parents)), (a_n_union, .inl (cZ, 12, .inr (.inr (.inr (.inr (qU aw n_nu))))))] ++ rws cI cJ aw n_un n_nu n_ln n_od n_no kc) (fun _ : EX => ([(a_n, .inr (10, [.int n_persons, .int n_unions, .ref a_n_year, .ref a_n_parents, .ref a_n_letters, .ref a_n_union, .ref a_n_order, .int n_rows, .ref a_n_gens, .ref a_n_levels, .ref a_n_kins, .ref a_n_col])), (a_n_kins, .inl (cK, 16, .inr (.inr (.inr (.inr (qK aw)))))), (a_n_order, .inl (cZ, 16, .inr (.inr (.inr (.inr (qO aw n_no go)))))), (a_n_parents, .inl (cI, 16, .inl n_parents)), (a_n_union, .inl (cZ, 12, .inr (.inr (.inr (.inr (qU aw n_nu))))))] ++ rws cI cJ aw n_un n_nu n_ln n_od n_no kc)) (fun _ => some (.int (bI r9))) := by
  refine g_startX (own := RL) (by decide +kernel) rfl (Nat.le_of_ble_eq_true rfl) ?_
  intro p e s m below meth c A ls S hr hlocks hE hG hP hD hS hA hl hin
  have hFU : FU = 1024 := rfl
  have hx := S.1
  have hb := S.2.1
  have hml := S.2.2.1
  have hown := S.2.2.2.1
  have htg : ∀ z ∈ gw, z.before ([.ref a_n, .int v1, .int v2] : List Value).toArray s = true := fun w h => S.2.2.2.2 w (List.mem_cons_of_mem _ h)
  have hl : lv_has ls 3 [(0, .ref a_n), (1, .int v1), (2, .int v2)] := hl
  have hS0 := hS
  obtain ⟨H, hH⟩ : ∃ H, H = s.heap := ⟨_, rfl⟩
  obtain ⟨locs, hlc⟩ : ∃ locs : List Loc, locs = [] := ⟨_, rfl⟩
  have hS : va_S A s.heap H locs := by rw [hH, hlc]; exact hS0
  have hP : va_P (dC, dI) vwCl ([(a_n, .inr (10, [.int n_persons, .int n_unions, .ref a_n_year, .ref a_n_parents, .ref a_n_letters, .ref a_n_union, .ref a_n_order, .int n_rows, .ref a_n_gens, .ref a_n_levels, .ref a_n_kins, .ref a_n_col])), (a_n_kins, .inl (cK, 16, .inr (.inr (.inr (.inr (qK aw)))))), (a_n_order, .inl (cZ, 16, .inr (.inr (.inr (.inr (qO aw n_no go)))))), (a_n_parents, .inl (cI, 16, .inl n_parents)), (a_n_union, .inl (cZ, 12, .inr (.inr (.inr (.inr (qU aw n_nu))))))] ++ rws cI cJ aw n_un n_nu n_ln n_od n_no kc) H := by rw [hH]; exact hP
  suffices hgo : W p l e ({ frames := 85, cells := 0, slots := 0, locals := 3550 }) s m ([.ref a_n, .int v1, .int v2] : List Value).toArray below meth c H locs 0 0 (MQ below (gXQ dC dI (fun _ => some (.int (bI r9))) A (fun _ : EX => ([(a_n, .inr (10, [.int n_persons, .int n_unions, .ref a_n_year, .ref a_n_parents, .ref a_n_letters, .ref a_n_union, .ref a_n_order, .int n_rows, .ref a_n_gens, .ref a_n_levels, .ref a_n_kins, .ref a_n_col])), (a_n_kins, .inl (cK, 16, .inr (.inr (.inr (.inr (qK aw)))))), (a_n_order, .inl (cZ, 16, .inr (.inr (.inr (.inr (qO aw n_no go)))))), (a_n_parents, .inl (cI, 16, .inl n_parents)), (a_n_union, .inl (cZ, 12, .inr (.inr (.inr (.inr (qU aw n_nu))))))] ++ rws cI cJ aw n_un n_nu n_ln n_od n_no kc))) ([.ref a_n, .int v1, .int v2] : List Value).toArray s 0 0 A) (F0 m 0 ls []) by rw [hH, hlc] at hgo; exact hgo
  rw [pL_can] at hf
  refine lv_aload_n hx hb dL_can_0 rfl (lv_at hl 0 rfl) ?_
  refine lv_iload_n hx hb dL_can_1 rfl (lv_at hl 1 rfl) ?_
  refine lv_iload_n hx hb dL_can_2 rfl (lv_at hl 2 rfl) ?_
  obtain ⟨r3, h9, hf⟩ := ob_s hf
  refine gxNP (index := 62) (host := "FamilyChartLaw") S htg hE hG (c_X10_in a_n a_n_year a_n_parents a_n_letters a_n_union a_n_order a_n_gens a_n_levels a_n_kins a_n_col aw go kc n_persons n_unions n_rows n_un n_nu n_ln n_od n_no v1 v2 r3 h9) mX10_in nw14 ⟨Nat.le_of_ble_eq_true rfl, Nat.le_of_ble_eq_true rfl⟩ hP hD hS hA ⟨Nat.zero_le _, Nat.zero_le _⟩ 0 10 rfl rfl rfl (X := [(a_n, .inr (10, [.int n_persons, .int n_unions, .ref a_n_year, .ref a_n_parents, .ref a_n_letters, .ref a_n_union, .ref a_n_order, .int n_rows, .ref a_n_gens, .ref a_n_levels, .ref a_n_kins, .ref a_n_col])), (a_n_kins, .inl (cK, 16, .inr (.inr (.inr (.inr (qK aw)))))), (a_n_order, .inl (cZ, 16, .inr (.inr (.inr (.inr (qO aw n_no go)))))), (a_n_parents, .inl (cI, 16, .inl n_parents)), (a_n_union, .inl (cZ, 12, .inr (.inr (.inr (.inr (qU aw n_nu))))))]) (cx := [(a_n, .inr (10, [.int n_persons, .int n_unions, .ref a_n_year, .ref a_n_parents, .ref a_n_letters, .ref a_n_union, .ref a_n_order, .int n_rows, .ref a_n_gens, .ref a_n_levels, .ref a_n_kins, .ref a_n_col])), (a_n_kins, .inl (cK, 16, .inr (.inr (.inr (.inr (qK aw)))))), (a_n_order, .inl (cZ, 16, .inr (.inr (.inr (.inr (qO aw n_no go)))))), (a_n_union, .inl (cZ, 12, .inr (.inr (.inr (.inr (qU aw n_nu))))))]) (pl := rws cI cJ aw n_un n_nu n_ln n_od n_no kc) (wr := [(a_n_parents, .inl (cI, 16, .inl n_parents))]) [0, 1, 2, 4] [3] rfl rfl rfl rfl (by decide) (As := [.int v1, .int v2]) (rest := []) rfl hl.1 rfl (Nat.le_of_ble_eq_true rfl) dL_can_3 (fun H locs xx3 hP hD hS => ?_)
  refine W.eq (g2 := F0 m 6 ls [.int (bI r3)]) rfl ?_
  have hP : va_P (dC, dI) vwCl ([(a_n_parents, .inl (cI, 16, .inl n_parents)), (a_n, .inr (10, [.int n_persons, .int n_unions, .ref a_n_year, .ref a_n_parents, .ref a_n_letters, .ref a_n_union, .ref a_n_order, .int n_rows, .ref a_n_gens, .ref a_n_levels, .ref a_n_kins, .ref a_n_col])), (a_n_kins, .inl (cK, 16, .inr (.inr (.inr (.inr (qK aw)))))), (a_n_order, .inl (cZ, 16, .inr (.inr (.inr (.inr (qO aw n_no go)))))), (a_n_union, .inl (cZ, 12, .inr (.inr (.inr (.inr (qU aw n_nu))))))] ++ rws cI cJ aw n_un n_nu n_ln n_od n_no kc) H := hP
  have hD : va_D A ([(a_n_parents, .inl (cI, 16, .inl n_parents)), (a_n, .inr (10, [.int n_persons, .int n_unions, .ref a_n_year, .ref a_n_parents, .ref a_n_letters, .ref a_n_union, .ref a_n_order, .int n_rows, .ref a_n_gens, .ref a_n_levels, .ref a_n_kins, .ref a_n_col])), (a_n_kins, .inl (cK, 16, .inr (.inr (.inr (.inr (qK aw)))))), (a_n_order, .inl (cZ, 16, .inr (.inr (.inr (.inr (qO aw n_no go)))))), (a_n_union, .inl (cZ, 12, .inr (.inr (.inr (.inr (qU aw n_nu))))))] ++ rws cI cJ aw n_un n_nu n_ln n_od n_no kc) := hD
  refine lv_if_ne (tgt := 45) hx hb dL_can_6 (by decide) (fun h9 => ?_) (fun h9 => ?_)
  · have hf := ctt (bI_1 h9) hf
    refine lv_iconst (v := 0) hx hb dL_can_45 (by decide) ?_
    cases hf
    exact g_zretX S hr (nar_bI false) hlocks (adV, fun _ => none, fun _ _ => 0) (hP.part [1, 2, 3, 0, 4] rfl) (hD.part [1, 2, 3, 0, 4] rfl rfl) hS (Nat.le_refl _) (Nat.le_refl _) dL_can_46
  · have hf := ctf (bI_0 h9) hf
    refine lv_aload_n hx hb dL_can_9 rfl (lv_at hl 0 rfl) ?_
    refine lv_aload_n hx hb dL_can_10 rfl (lv_at hl 0 rfl) ?_
    refine va_getN (D := (dC, dI)) (ci := 10) (v := .ref a_n_union) (C := RX10) (T := TX10) (N := 12) hx hb htg inX10 hown hE.1 hP 1 rfl rfl 5 (by decide) (va_Nw.use rfl (hG.2.1 (.fieldLinkNest "FamilyChartLaw" 49 "FamilyChartLaw$Own" "union" "[[I" "FamilyChartLaw") (List.mem_of_getElem? (i := 5) rfl))) (fun _ h9 => h9) rfl dL_can_11 ?_
    refine lv_iload_n hx hb dL_can_14 rfl (lv_at hl 1 rfl) ?_
    obtain ⟨h8, hf⟩ := gd_s hf
    obtain ⟨hq15, hf⟩ := gd_s hf
    refine g_aldR (b := (aw (3 * v1.toNatClampNeg))) hx hb hE hP 4 2 rfl rfl h8 (if_pos (vin_lt hq15)) dL_can_15 ?_
    refine lv_iconst (v := 0) hx hb dL_can_16 (by decide) ?_
    obtain ⟨h9, hf⟩ := gd_s hf
    refine va_iald hx hb hE.1 hP _ 0 (rU_get (X := [(a_n_parents, .inl (cI, 16, .inl n_parents)), (a_n, .inr (10, [.int n_persons, .int n_unions, .ref a_n_year, .ref a_n_parents, .ref a_n_letters, .ref a_n_union, .ref a_n_order, .int n_rows, .ref a_n_gens, .ref a_n_levels, .ref a_n_kins, .ref a_n_col])), (a_n_kins, .inl (cK, 16, .inr (.inr (.inr (.inr (qK aw)))))), (a_n_order, .inl (cZ, 16, .inr (.inr (.inr (.inr (qO aw n_no go)))))), (a_n_union, .inl (cZ, 12, .inr (.inr (.inr (.inr (qU aw n_nu))))))]) (vin_lt hq15)) rfl h9 dL_can_17 ?_
    obtain ⟨r18, h9, hf⟩ := ob_s hf
    refine gxNP (index := 66) (host := "FamilyChartLaw") S htg hE hG (c_X10_up a_n a_n_year a_n_parents a_n_letters a_n_union a_n_order a_n_gens a_n_levels a_n_kins a_n_col aw go kc n_persons n_unions n_rows n_parents n_un n_nu n_ln n_od n_no (n_un v1.toNatClampNeg (0 : Int32).toNatClampNeg) r18 h9) mX10_up nw15 ⟨Nat.le_of_ble_eq_true rfl, Nat.le_of_ble_eq_true rfl⟩ hP hD hS hA ⟨Nat.zero_le _, Nat.zero_le _⟩ 1 10 rfl rfl rfl (X := [(a_n_parents, .inl (cI, 16, .inl n_parents)), (a_n, .inr (10, [.int n_persons, .int n_unions, .ref a_n_year, .ref a_n_parents, .ref a_n_letters, .ref a_n_union, .ref a_n_order, .int n_rows, .ref a_n_gens, .ref a_n_levels, .ref a_n_kins, .ref a_n_col])), (a_n_kins, .inl (cK, 16, .inr (.inr (.inr (.inr (qK aw)))))), (a_n_order, .inl (cZ, 16, .inr (.inr (.inr (.inr (qO aw n_no go)))))), (a_n_union, .inl (cZ, 12, .inr (.inr (.inr (.inr (qU aw n_nu))))))]) (cx := [(a_n, .inr (10, [.int n_persons, .int n_unions, .ref a_n_year, .ref a_n_parents, .ref a_n_letters, .ref a_n_union, .ref a_n_order, .int n_rows, .ref a_n_gens, .ref a_n_levels, .ref a_n_kins, .ref a_n_col])), (a_n_kins, .inl (cK, 16, .inr (.inr (.inr (.inr (qK aw)))))), (a_n_order, .inl (cZ, 16, .inr (.inr (.inr (.inr (qO aw n_no go)))))), (a_n_parents, .inl (cI, 16, .inl n_parents)), (a_n_union, .inl (cZ, 12, .inr (.inr (.inr (.inr (qU aw n_nu))))))]) (pl := rws cI cJ aw n_un n_nu n_ln n_od n_no kc) (wr := []) [1, 2, 3, 0, 4] [] rfl rfl rfl rfl (by decide) (As := [.int (n_un v1.toNatClampNeg (0 : Int32).toNatClampNeg)]) (rest := []) rfl hl.1 rfl (Nat.le_of_ble_eq_true rfl) dL_can_18 (fun H locs xx18 hP hD hS => ?_)
    refine W.eq (g2 := F0 m 21 ls [.int r18]) rfl ?_
    have hP : va_P (dC, dI) vwCl ([(a_n, .inr (10, [.int n_persons, .int n_unions, .ref a_n_year, .ref a_n_parents, .ref a_n_letters, .ref a_n_union, .ref a_n_order, .int n_rows, .ref a_n_gens, .ref a_n_levels, .ref a_n_kins, .ref a_n_col])), (a_n_kins, .inl (cK, 16, .inr (.inr (.inr (.inr (qK aw)))))), (a_n_order, .inl (cZ, 16, .inr (.inr (.inr (.inr (qO aw n_no go)))))), (a_n_parents, .inl (cI, 16, .inl n_parents)), (a_n_union, .inl (cZ, 12, .inr (.inr (.inr (.inr (qU aw n_nu))))))] ++ rws cI cJ aw n_un n_nu n_ln n_od n_no kc) H := hP
    have hD : va_D A ([(a_n, .inr (10, [.int n_persons, .int n_unions, .ref a_n_year, .ref a_n_parents, .ref a_n_letters, .ref a_n_union, .ref a_n_order, .int n_rows, .ref a_n_gens, .ref a_n_levels, .ref a_n_kins, .ref a_n_col])), (a_n_kins, .inl (cK, 16, .inr (.inr (.inr (.inr (qK aw)))))), (a_n_order, .inl (cZ, 16, .inr (.inr (.inr (.inr (qO aw n_no go)))))), (a_n_parents, .inl (cI, 16, .inl n_parents)), (a_n_union, .inl (cZ, 12, .inr (.inr (.inr (.inr (qU aw n_nu))))))] ++ rws cI cJ aw n_un n_nu n_ln n_od n_no kc) := hD
    refine lv_aload_n hx hb dL_can_21 rfl (lv_at hl 0 rfl) ?_
    refine lv_aload_n hx hb dL_can_22 rfl (lv_at hl 0 rfl) ?_
    refine va_getN (D := (dC, dI)) (ci := 10) (v := .ref a_n_union) (C := RX10) (T := TX10) (N := 12) hx hb htg inX10 hown hE.1 hP 0 rfl rfl 5 (by decide) (va_Nw.use rfl (hG.2.1 (.fieldLinkNest "FamilyChartLaw" 49 "FamilyChartLaw$Own" "union" "[[I" "FamilyChartLaw") (List.mem_of_getElem? (i := 5) rfl))) (fun _ h9 => h9) rfl dL_can_23 ?_
    refine lv_iload_n hx hb dL_can_26 rfl (lv_at hl 1 rfl) ?_
    obtain ⟨h8, hf⟩ := gd_s hf
    obtain ⟨hq27, hf⟩ := gd_s hf
    refine g_aldR (b := (aw (3 * v1.toNatClampNeg))) hx hb hE hP 4 2 rfl rfl h8 (if_pos (vin_lt hq27)) dL_can_27 ?_
    refine lv_iconst (v := 1) hx hb dL_can_28 (by decide) ?_
    obtain ⟨h9, hf⟩ := gd_s hf
    refine va_iald hx hb hE.1 hP _ 0 (rU_get (X := [(a_n, .inr (10, [.int n_persons, .int n_unions, .ref a_n_year, .ref a_n_parents, .ref a_n_letters, .ref a_n_union, .ref a_n_order, .int n_rows, .ref a_n_gens, .ref a_n_levels, .ref a_n_kins, .ref a_n_col])), (a_n_kins, .inl (cK, 16, .inr (.inr (.inr (.inr (qK aw)))))), (a_n_order, .inl (cZ, 16, .inr (.inr (.inr (.inr (qO aw n_no go)))))), (a_n_parents, .inl (cI, 16, .inl n_parents)), (a_n_union, .inl (cZ, 12, .inr (.inr (.inr (.inr (qU aw n_nu))))))]) (vin_lt hq27)) rfl h9 dL_can_29 ?_
    obtain ⟨r30, h9, hf⟩ := ob_s hf
    refine gxNP (index := 66) (host := "FamilyChartLaw") S htg hE hG (c_X10_up a_n a_n_year a_n_parents a_n_letters a_n_union a_n_order a_n_gens a_n_levels a_n_kins a_n_col aw go kc n_persons n_unions n_rows n_parents n_un n_nu n_ln n_od n_no (n_un v1.toNatClampNeg (1 : Int32).toNatClampNeg) r30 h9) mX10_up nw15 ⟨Nat.le_of_ble_eq_true rfl, Nat.le_of_ble_eq_true rfl⟩ hP hD hS hA ⟨Nat.zero_le _, Nat.zero_le _⟩ 0 10 rfl rfl rfl (X := [(a_n, .inr (10, [.int n_persons, .int n_unions, .ref a_n_year, .ref a_n_parents, .ref a_n_letters, .ref a_n_union, .ref a_n_order, .int n_rows, .ref a_n_gens, .ref a_n_levels, .ref a_n_kins, .ref a_n_col])), (a_n_kins, .inl (cK, 16, .inr (.inr (.inr (.inr (qK aw)))))), (a_n_order, .inl (cZ, 16, .inr (.inr (.inr (.inr (qO aw n_no go)))))), (a_n_parents, .inl (cI, 16, .inl n_parents)), (a_n_union, .inl (cZ, 12, .inr (.inr (.inr (.inr (qU aw n_nu))))))]) (cx := [(a_n, .inr (10, [.int n_persons, .int n_unions, .ref a_n_year, .ref a_n_parents, .ref a_n_letters, .ref a_n_union, .ref a_n_order, .int n_rows, .ref a_n_gens, .ref a_n_levels, .ref a_n_kins, .ref a_n_col])), (a_n_kins, .inl (cK, 16, .inr (.inr (.inr (.inr (qK aw)))))), (a_n_order, .inl (cZ, 16, .inr (.inr (.inr (.inr (qO aw n_no go)))))), (a_n_parents, .inl (cI, 16, .inl n_parents)), (a_n_union, .inl (cZ, 12, .inr (.inr (.inr (.inr (qU aw n_nu))))))]) (pl := rws cI cJ aw n_un n_nu n_ln n_od n_no kc) (wr := []) [0, 1, 2, 3, 4] [] rfl rfl rfl rfl (by decide) (As := [.int (n_un v1.toNatClampNeg (1 : Int32).toNatClampNeg)]) (rest := [.int r18]) rfl hl.1 rfl (Nat.le_of_ble_eq_true rfl) dL_can_30 (fun H locs xx30 hP hD hS => ?_)
    refine W.eq (g2 := F0 m 33 ls [.int r30, .int r18]) rfl ?_
    have hP : va_P (dC, dI) vwCl ([(a_n, .inr (10, [.int n_persons, .int n_unions, .ref a_n_year, .ref a_n_parents, .ref a_n_letters, .ref a_n_union, .ref a_n_order, .int n_rows, .ref a_n_gens, .ref a_n_levels, .ref a_n_kins, .ref a_n_col])), (a_n_kins, .inl (cK, 16, .inr (.inr (.inr (.inr (qK aw)))))), (a_n_order, .inl (cZ, 16, .inr (.inr (.inr (.inr (qO aw n_no go)))))), (a_n_parents, .inl (cI, 16, .inl n_parents)), (a_n_union, .inl (cZ, 12, .inr (.inr (.inr (.inr (qU aw n_nu))))))] ++ rws cI cJ aw n_un n_nu n_ln n_od n_no kc) H := hP
    have hD : va_D A ([(a_n, .inr (10, [.int n_persons, .int n_unions, .ref a_n_year, .ref a_n_parents, .ref a_n_letters, .ref a_n_union, .ref a_n_order, .int n_rows, .ref a_n_gens, .ref a_n_levels, .ref a_n_kins, .ref a_n_col])), (a_n_kins, .inl (cK, 16, .inr (.inr (.inr (.inr (qK aw)))))), (a_n_order, .inl (cZ, 16, .inr (.inr (.inr (.inr (qO aw n_no go)))))), (a_n_parents, .inl (cI, 16, .inl n_parents)), (a_n_union, .inl (cZ, 12, .inr (.inr (.inr (.inr (qU aw n_nu))))))] ++ rws cI cJ aw n_un n_nu n_ln n_od n_no kc) := hD
    refine lv_ior hx hb dL_can_33 ?_
    refine lv_iload_n hx hb dL_can_34 rfl (lv_at hl 2 rfl) ?_
    refine lv_ishr hx hb dL_can_35 ?_
    refine lv_iconst (v := 1) hx hb dL_can_36 (by decide) ?_
    refine lv_iand hx hb dL_can_37 ?_
    refine lv_if_ne (tgt := 45) hx hb dL_can_38 (by decide) (fun h9 => ?_) (fun h9 => ?_)
    · have hf := itf h9 hf
      refine lv_iconst (v := 0) hx hb dL_can_45 (by decide) ?_
      cases hf
      exact g_zretX S hr (nar_bI false) hlocks (adV, fun _ => none, fun _ _ => 0) hP hD hS (Nat.le_refl _) (Nat.le_refl _) dL_can_46
    · have hf := itt h9 hf
      refine lv_iconst (v := 1) hx hb dL_can_41 (by decide) ?_
      refine lv_goto (tgt := 46) hx hb dL_can_42 (by decide) ?_
      cases hf
      exact g_zretX S hr (nar_bI true) hlocks (adV, fun _ => none, fun _ _ => 0) hP hD hS (Nat.le_refl _) (Nat.le_refl _) dL_can_46
end G_45_Law00
