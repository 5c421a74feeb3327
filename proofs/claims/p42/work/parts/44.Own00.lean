section G_44_Own00
variable {l : Launch} {dC : Nat → ClassId} {dI : Nat → Nat → Nat} {cI cJ cZ cK : ClassId} {adK adV : Nat → Nat}
set_option maxHeartbeats 4000000 in
set_option maxRecDepth 100000 in
theorem c_X10_gen (a_n a_n_year a_n_parents a_n_letters a_n_union a_n_order a_n_gens a_n_levels a_n_kins a_n_col : Nat) (n_persons : Int32) (n_unions : Int32) (n_rows : Int32) (n_gens : Nat → Int32) (v1 : Int32) (r9 : Int32) (hf : p10_gen n_gens v1 = some r9) : gXM l dC dI cI cJ cZ cK adK adV yX10_gen cX10_gen 2 (some .int) (0) (0) 0 0 [.ref a_n, .int v1] ([(a_n, .inr (10, [.int n_persons, .int n_unions, .ref a_n_year, .ref a_n_parents, .ref a_n_letters, .ref a_n_union, .ref a_n_order, .int n_rows, .ref a_n_gens, .ref a_n_levels, .ref a_n_kins, .ref a_n_col])), (a_n_gens, .inl (cI, 16, .inl n_gens))] ++ []) (fun _ : EX => ([(a_n, .inr (10, [.int n_persons, .int n_unions, .ref a_n_year, .ref a_n_parents, .ref a_n_letters, .ref a_n_union, .ref a_n_order, .int n_rows, .ref a_n_gens, .ref a_n_levels, .ref a_n_kins, .ref a_n_col])), (a_n_gens, .inl (cI, 16, .inl n_gens))] ++ [])) (fun _ => some (.int r9)) := by
  refine g_startX (own := RX10) (by decide +kernel) rfl (Nat.le_of_ble_eq_true rfl) ?_
  intro p e s m below meth c A ls S hr hlocks hE hG hP hD hS hA hl hin
  have hFU : FU = 1024 := rfl
  have hx := S.1
  have hb := S.2.1
  have hml := S.2.2.1
  have hown := S.2.2.2.1
  have htg : ∀ z ∈ gw, z.before ([.ref a_n, .int v1] : List Value).toArray s = true := fun w h => S.2.2.2.2 w (List.mem_cons_of_mem _ h)
  have hl : lv_has ls 2 [(0, .ref a_n), (1, .int v1)] := hl
  have hS0 := hS
  obtain ⟨H, hH⟩ : ∃ H, H = s.heap := ⟨_, rfl⟩
  obtain ⟨locs, hlc⟩ : ∃ locs : List Loc, locs = [] := ⟨_, rfl⟩
  have hS : va_S A s.heap H locs := by rw [hH, hlc]; exact hS0
  have hP : va_P (dC, dI) vwCl ([(a_n, .inr (10, [.int n_persons, .int n_unions, .ref a_n_year, .ref a_n_parents, .ref a_n_letters, .ref a_n_union, .ref a_n_order, .int n_rows, .ref a_n_gens, .ref a_n_levels, .ref a_n_kins, .ref a_n_col])), (a_n_gens, .inl (cI, 16, .inl n_gens))] ++ []) H := by rw [hH]; exact hP
  suffices hgo : W p l e ({ frames := 0, cells := 0, slots := 0, locals := 0 }) s m ([.ref a_n, .int v1] : List Value).toArray below meth c H locs 0 0 (MQ below (gXQ dC dI (fun _ => some (.int r9)) A (fun _ : EX => ([(a_n, .inr (10, [.int n_persons, .int n_unions, .ref a_n_year, .ref a_n_parents, .ref a_n_letters, .ref a_n_union, .ref a_n_order, .int n_rows, .ref a_n_gens, .ref a_n_levels, .ref a_n_kins, .ref a_n_col])), (a_n_gens, .inl (cI, 16, .inl n_gens))] ++ []))) ([.ref a_n, .int v1] : List Value).toArray s 0 0 A) (F0 m 0 ls []) by rw [hH, hlc] at hgo; exact hgo
  rw [p10_gen] at hf
  refine lv_aload_n hx hb dX10_gen_0 rfl (lv_at hl 0 rfl) ?_
  refine va_get (D := (dC, dI)) (ci := 10) (v := .ref a_n_gens) (C := RX10) (T := TX10) (N := 12) hx hb htg inX10 hown hE.1 hP 0 rfl rfl 8 (by decide) (htg _ tw558) (fun _ h9 => h9) rfl dX10_gen_1 ?_
  refine lv_iload_n hx hb dX10_gen_4 rfl (lv_at hl 1 rfl) ?_
  obtain ⟨h9, hf⟩ := gd_s hf
  refine va_iald hx hb hE.1 hP 1 0 rfl rfl h9 dX10_gen_5 ?_
  cases hf
  exact g_iretX S hr hlocks (adV, fun _ => none, fun _ _ => 0) hP hD hS (Nat.le_refl _) (Nat.le_refl _) dX10_gen_6
set_option maxHeartbeats 4000000 in
set_option maxRecDepth 100000 in
theorem c_X10_level (a_n a_n_year a_n_parents a_n_letters a_n_union a_n_order a_n_gens a_n_levels a_n_kins a_n_col : Nat) (n_persons : Int32) (n_unions : Int32) (n_rows : Int32) (n_levels : Nat → Int32) (v1 : Int32) (r9 : Int32) (hf : p10_level n_levels v1 = some r9) : gXM l dC dI cI cJ cZ cK adK adV yX10_level cX10_level 2 (some .int) (0) (0) 0 0 [.ref a_n, .int v1] ([(a_n, .inr (10, [.int n_persons, .int n_unions, .ref a_n_year, .ref a_n_parents, .ref a_n_letters, .ref a_n_union, .ref a_n_order, .int n_rows, .ref a_n_gens, .ref a_n_levels, .ref a_n_kins, .ref a_n_col])), (a_n_levels, .inl (cI, 12, .inl n_levels))] ++ []) (fun _ : EX => ([(a_n, .inr (10, [.int n_persons, .int n_unions, .ref a_n_year, .ref a_n_parents, .ref a_n_letters, .ref a_n_union, .ref a_n_order, .int n_rows, .ref a_n_gens, .ref a_n_levels, .ref a_n_kins, .ref a_n_col])), (a_n_levels, .inl (cI, 12, .inl n_levels))] ++ [])) (fun _ => some (.int r9)) := by
  refine g_startX (own := RX10) (by decide +kernel) rfl (Nat.le_of_ble_eq_true rfl) ?_
  intro p e s m below meth c A ls S hr hlocks hE hG hP hD hS hA hl hin
  have hFU : FU = 1024 := rfl
  have hx := S.1
  have hb := S.2.1
  have hml := S.2.2.1
  have hown := S.2.2.2.1
  have htg : ∀ z ∈ gw, z.before ([.ref a_n, .int v1] : List Value).toArray s = true := fun w h => S.2.2.2.2 w (List.mem_cons_of_mem _ h)
  have hl : lv_has ls 2 [(0, .ref a_n), (1, .int v1)] := hl
  have hS0 := hS
  obtain ⟨H, hH⟩ : ∃ H, H = s.heap := ⟨_, rfl⟩
  obtain ⟨locs, hlc⟩ : ∃ locs : List Loc, locs = [] := ⟨_, rfl⟩
  have hS : va_S A s.heap H locs := by rw [hH, hlc]; exact hS0
  have hP : va_P (dC, dI) vwCl ([(a_n, .inr (10, [.int n_persons, .int n_unions, .ref a_n_year, .ref a_n_parents, .ref a_n_letters, .ref a_n_union, .ref a_n_order, .int n_rows, .ref a_n_gens, .ref a_n_levels, .ref a_n_kins, .ref a_n_col])), (a_n_levels, .inl (cI, 12, .inl n_levels))] ++ []) H := by rw [hH]; exact hP
  suffices hgo : W p l e ({ frames := 0, cells := 0, slots := 0, locals := 0 }) s m ([.ref a_n, .int v1] : List Value).toArray below meth c H locs 0 0 (MQ below (gXQ dC dI (fun _ => some (.int r9)) A (fun _ : EX => ([(a_n, .inr (10, [.int n_persons, .int n_unions, .ref a_n_year, .ref a_n_parents, .ref a_n_letters, .ref a_n_union, .ref a_n_order, .int n_rows, .ref a_n_gens, .ref a_n_levels, .ref a_n_kins, .ref a_n_col])), (a_n_levels, .inl (cI, 12, .inl n_levels))] ++ []))) ([.ref a_n, .int v1] : List Value).toArray s 0 0 A) (F0 m 0 ls []) by rw [hH, hlc] at hgo; exact hgo
  rw [p10_level] at hf
  refine lv_aload_n hx hb dX10_level_0 rfl (lv_at hl 0 rfl) ?_
  refine va_get (D := (dC, dI)) (ci := 10) (v := .ref a_n_levels) (C := RX10) (T := TX10) (N := 12) hx hb htg inX10 hown hE.1 hP 0 rfl rfl 9 (by decide) (htg _ tw559) (fun _ h9 => h9) rfl dX10_level_1 ?_
  refine lv_iload_n hx hb dX10_level_4 rfl (lv_at hl 1 rfl) ?_
  obtain ⟨h9, hf⟩ := gd_s hf
  refine va_iald hx hb hE.1 hP 1 0 rfl rfl h9 dX10_level_5 ?_
  cases hf
  exact g_iretX S hr hlocks (adV, fun _ => none, fun _ _ => 0) hP hD hS (Nat.le_refl _) (Nat.le_refl _) dX10_level_6
set_option maxHeartbeats 4000000 in
set_option maxRecDepth 100000 in
theorem c_X10_name (a_n a_n_year a_n_parents a_n_letters a_n_union a_n_order a_n_gens a_n_levels a_n_kins a_n_col : Nat) (n_persons : Int32) (n_unions : Int32) (n_rows : Int32) (v1 : Int32) (v2 : Int32) (r9 : Int32) (hf : p10_name v1 v2 = r9) : gXM l dC dI cI cJ cZ cK adK adV yX10_name cX10_name 3 (some .char) (0) (0) 0 0 [.ref a_n, .int v1, .int v2] ([(a_n, .inr (10, [.int n_persons, .int n_unions, .ref a_n_year, .ref a_n_parents, .ref a_n_letters, .ref a_n_union, .ref a_n_order, .int n_rows, .ref a_n_gens, .ref a_n_levels, .ref a_n_kins, .ref a_n_col]))] ++ []) (fun _ : EX => ([(a_n, .inr (10, [.int n_persons, .int n_unions, .ref a_n_year, .ref a_n_parents, .ref a_n_letters, .ref a_n_union, .ref a_n_order, .int n_rows, .ref a_n_gens, .ref a_n_levels, .ref a_n_kins, .ref a_n_col]))] ++ [])) (fun _ => some (.int r9)) := by
  refine g_startX (own := RX10) (by decide +kernel) rfl (Nat.le_of_ble_eq_true rfl) ?_
  intro p e s m below meth c A ls S hr hlocks hE hG hP hD hS hA hl hin
  have hFU : FU = 1024 := rfl
  have hx := S.1
  have hb := S.2.1
  have hml := S.2.2.1
  have hown := S.2.2.2.1
  have htg : ∀ z ∈ gw, z.before ([.ref a_n, .int v1, .int v2] : List Value).toArray s = true := fun w h => S.2.2.2.2 w (List.mem_cons_of_mem _ h)
  have hl : lv_has ls 3 [(0, .ref a_n), (1, .int v1), (2, .int v2)] := hl
  have hS0 := hS
  obtain ⟨H, hH⟩ : ∃ H, H = s.heap := ⟨_, rfl⟩
  obtain ⟨locs, hlc⟩ : ∃ locs : List Loc, locs = [] := ⟨_, rfl⟩
  have hS : va_S A s.heap H locs := by rw [hH, hlc]; exact hS0
  have hP : va_P (dC, dI) vwCl ([(a_n, .inr (10, [.int n_persons, .int n_unions, .ref a_n_year, .ref a_n_parents, .ref a_n_letters, .ref a_n_union, .ref a_n_order, .int n_rows, .ref a_n_gens, .ref a_n_levels, .ref a_n_kins, .ref a_n_col]))] ++ []) H := by rw [hH]; exact hP
  suffices hgo : W p l e ({ frames := 0, cells := 0, slots := 0, locals := 0 }) s m ([.ref a_n, .int v1, .int v2] : List Value).toArray below meth c H locs 0 0 (MQ below (gXQ dC dI (fun _ => some (.int r9)) A (fun _ : EX => ([(a_n, .inr (10, [.int n_persons, .int n_unions, .ref a_n_year, .ref a_n_parents, .ref a_n_letters, .ref a_n_union, .ref a_n_order, .int n_rows, .ref a_n_gens, .ref a_n_levels, .ref a_n_kins, .ref a_n_col]))] ++ []))) ([.ref a_n, .int v1, .int v2] : List Value).toArray s 0 0 A) (F0 m 0 ls []) by rw [hH, hlc] at hgo; exact hgo
  rw [p10_name] at hf
  refine lv_bipush (v := 97) hx hb dX10_name_0 (by decide) ?_
  refine lv_iload_n hx hb dX10_name_2 rfl (lv_at hl 1 rfl) ?_
  refine lv_iload_n hx hb dX10_name_3 rfl (lv_at hl 2 rfl) ?_
  refine lv_iadd hx hb dX10_name_4 ?_
  refine lv_bipush (v := 16) hx hb dX10_name_5 (by decide) ?_
  refine lv_irem hx hb dX10_name_7 (by decide) ?_
  refine lv_iadd hx hb dX10_name_8 ?_
  refine lv_i2c (v := ((((97 : Int32) + ((v1 + v2) - (v1 + v2) / (16 : Int32) * (16 : Int32))).toUInt32 % 65536).toInt32)) hx hb dX10_name_9 rfl ?_
  cases hf
  exact g_cretX S hr (nar_chr _) hlocks (adV, fun _ => none, fun _ _ => 0) hP hD hS (Nat.le_refl _) (Nat.le_refl _) dX10_name_10
set_option maxHeartbeats 4000000 in
set_option maxRecDepth 100000 in
theorem c_X10_in (a_n a_n_year a_n_parents a_n_letters a_n_union a_n_order a_n_gens a_n_levels a_n_kins a_n_col : Nat) (aw : Nat → Nat) (go : Nat → Option Nat) (kc : Nat → Nat → Int64) (n_persons : Int32) (n_unions : Int32) (n_rows : Int32) (n_un : Nat → Nat → Int32) (n_nu : Nat) (n_ln : Nat → Nat) (n_od : Nat → Nat → Int32) (n_no : Nat) (v1 : Int32) (v2 : Int32) (r9 : Bool) (hf : p10_in n_un n_nu v1 v2 = some r9) : gXM l dC dI cI cJ cZ cK adK adV yX10_in cX10_in 3 (some .boolean) (0) (0) 0 0 [.ref a_n, .int v1, .int v2] ([(a_n, .inr (10, [.int n_persons, .int n_unions, .ref a_n_year, .ref a_n_parents, .ref a_n_letters, .ref a_n_union, .ref a_n_order, .int n_rows, .ref a_n_gens, .ref a_n_levels, .ref a_n_kins, .ref a_n_col])), (a_n_kins, .inl (cK, 16, .inr (.inr (.inr (.inr (qK aw)))))), (a_n_order, .inl (cZ, 16, .inr (.inr (.inr (.inr (qO aw n_no go)))))), (a_n_union, .inl (cZ, 12, .inr (.inr (.inr (.inr (qU aw n_nu))))))] ++ rws cI cJ aw n_un n_nu n_ln n_od n_no kc) (fun _ : EX => ([(a_n, .inr (10, [.int n_persons, .int n_unions, .ref a_n_year, .ref a_n_parents, .ref a_n_letters, .ref a_n_union, .ref a_n_order, .int n_rows, .ref a_n_gens, .ref a_n_levels, .ref a_n_kins, .ref a_n_col])), (a_n_kins, .inl (cK, 16, .inr (.inr (.inr (.inr (qK aw)))))), (a_n_order, .inl (cZ, 16, .inr (.inr (.inr (.inr (qO aw n_no go)))))), (a_n_union, .inl (cZ, 12, .inr (.inr (.inr (.inr (qU aw n_nu))))))] ++ rws cI cJ aw n_un n_nu n_ln n_od n_no kc)) (fun _ => some (.int (bI r9))) := by
  refine g_startX (own := RX10) (by decide +kernel) rfl (Nat.le_of_ble_eq_true rfl) ?_
  intro p e s m below meth c A ls S hr hlocks hE hG hP hD hS hA hl hin
  have hFU : FU = 1024 := rfl
  have hx := S.1
  have hb := S.2.1
  have hml := S.2.2.1
  have hown := S.2.2.2.1
  have htg : ∀ z ∈ gw, z.before ([.ref a_n, .int v1, .int v2] : List Value).toArray s = true := fun w h => S.2.2.2.2 w (List.mem_cons_of_mem _ h)
  have hl : lv_has ls 3 [(0, .ref a_n), (1, .int v1), (2, .int v2)] := hl
  have hS0 := hS
  obtain ⟨H, hH⟩ : ∃ H, H = s.heap := ⟨_, rfl⟩
  obtain ⟨locs, hlc⟩ : ∃ locs : List Loc, locs = [] := ⟨_, rfl⟩
  have hS : va_S A s.heap H locs := by rw [hH, hlc]; exact hS0
  have hP : va_P (dC, dI) vwCl ([(a_n, .inr (10, [.int n_persons, .int n_unions, .ref a_n_year, .ref a_n_parents, .ref a_n_letters, .ref a_n_union, .ref a_n_order, .int n_rows, .ref a_n_gens, .ref a_n_levels, .ref a_n_kins, .ref a_n_col])), (a_n_kins, .inl (cK, 16, .inr (.inr (.inr (.inr (qK aw)))))), (a_n_order, .inl (cZ, 16, .inr (.inr (.inr (.inr (qO aw n_no go)))))), (a_n_union, .inl (cZ, 12, .inr (.inr (.inr (.inr (qU aw n_nu))))))] ++ rws cI cJ aw n_un n_nu n_ln n_od n_no kc) H := by rw [hH]; exact hP
  suffices hgo : W p l e ({ frames := 0, cells := 0, slots := 0, locals := 0 }) s m ([.ref a_n, .int v1, .int v2] : List Value).toArray below meth c H locs 0 0 (MQ below (gXQ dC dI (fun _ => some (.int (bI r9))) A (fun _ : EX => ([(a_n, .inr (10, [.int n_persons, .int n_unions, .ref a_n_year, .ref a_n_parents, .ref a_n_letters, .ref a_n_union, .ref a_n_order, .int n_rows, .ref a_n_gens, .ref a_n_levels, .ref a_n_kins, .ref a_n_col])), (a_n_kins, .inl (cK, 16, .inr (.inr (.inr (.inr (qK aw)))))), (a_n_order, .inl (cZ, 16, .inr (.inr (.inr (.inr (qO aw n_no go)))))), (a_n_union, .inl (cZ, 12, .inr (.inr (.inr (.inr (qU aw n_nu))))))] ++ rws cI cJ aw n_un n_nu n_ln n_od n_no kc))) ([.ref a_n, .int v1, .int v2] : List Value).toArray s 0 0 A) (F0 m 0 ls []) by rw [hH, hlc] at hgo; exact hgo
  rw [p10_in] at hf
  refine lv_aload_n hx hb dX10_in_0 rfl (lv_at hl 0 rfl) ?_
  refine va_get (D := (dC, dI)) (ci := 10) (v := .ref a_n_union) (C := RX10) (T := TX10) (N := 12) hx hb htg inX10 hown hE.1 hP 0 rfl rfl 5 (by decide) (htg _ tw552) (fun _ h9 => h9) rfl dX10_in_1 ?_
  refine lv_iload_n hx hb dX10_in_4 rfl (lv_at hl 1 rfl) ?_
  obtain ⟨h8, hf⟩ := gd_s hf
  obtain ⟨hq5, hf⟩ := gd_s hf
  refine g_aldR (b := (aw (3 * v1.toNatClampNeg))) hx hb hE hP 3 2 rfl rfl h8 (if_pos (vin_lt hq5)) dX10_in_5 ?_
  refine lv_iconst (v := 0) hx hb dX10_in_6 (by decide) ?_
  obtain ⟨h9, hf⟩ := gd_s hf
  refine va_iald hx hb hE.1 hP _ 0 (rU_get (X := [(a_n, .inr (10, [.int n_persons, .int n_unions, .ref a_n_year, .ref a_n_parents, .ref a_n_letters, .ref a_n_union, .ref a_n_order, .int n_rows, .ref a_n_gens, .ref a_n_levels, .ref a_n_kins, .ref a_n_col])), (a_n_kins, .inl (cK, 16, .inr (.inr (.inr (.inr (qK aw)))))), (a_n_order, .inl (cZ, 16, .inr (.inr (.inr (.inr (qO aw n_no go)))))), (a_n_union, .inl (cZ, 12, .inr (.inr (.inr (.inr (qU aw n_nu))))))]) (vin_lt hq5)) rfl h9 dX10_in_7 ?_
  refine lv_iload_n hx hb dX10_in_8 rfl (lv_at hl 2 rfl) ?_
  refine lv_icmp_eq (tgt := 24) hx hb dX10_in_9 (by decide) (fun h9 => ?_) (fun h9 => ?_)
  · have hf := itt h9 hf
    refine lv_iconst (v := 1) hx hb dX10_in_24 (by decide) ?_
    refine lv_goto (tgt := 29) hx hb dX10_in_25 (by decide) ?_
    cases hf
    exact g_zretX S hr (nar_bI true) hlocks (adV, fun _ => none, fun _ _ => 0) hP hD hS (Nat.le_refl _) (Nat.le_refl _) dX10_in_29
  · have hf := itf h9 hf
    refine lv_aload_n hx hb dX10_in_12 rfl (lv_at hl 0 rfl) ?_
    refine va_get (D := (dC, dI)) (ci := 10) (v := .ref a_n_union) (C := RX10) (T := TX10) (N := 12) hx hb htg inX10 hown hE.1 hP 0 rfl rfl 5 (by decide) (htg _ tw552) (fun _ h9 => h9) rfl dX10_in_13 ?_
    refine lv_iload_n hx hb dX10_in_16 rfl (lv_at hl 1 rfl) ?_
    obtain ⟨h8, hf⟩ := gd_s hf
    obtain ⟨hq17, hf⟩ := gd_s hf
    refine g_aldR (b := (aw (3 * v1.toNatClampNeg))) hx hb hE hP 3 2 rfl rfl h8 (if_pos (vin_lt hq17)) dX10_in_17 ?_
    refine lv_iconst (v := 1) hx hb dX10_in_18 (by decide) ?_
    obtain ⟨h9, hf⟩ := gd_s hf
    refine va_iald hx hb hE.1 hP _ 0 (rU_get (X := [(a_n, .inr (10, [.int n_persons, .int n_unions, .ref a_n_year, .ref a_n_parents, .ref a_n_letters, .ref a_n_union, .ref a_n_order, .int n_rows, .ref a_n_gens, .ref a_n_levels, .ref a_n_kins, .ref a_n_col])), (a_n_kins, .inl (cK, 16, .inr (.inr (.inr (.inr (qK aw)))))), (a_n_order, .inl (cZ, 16, .inr (.inr (.inr (.inr (qO aw n_no go)))))), (a_n_union, .inl (cZ, 12, .inr (.inr (.inr (.inr (qU aw n_nu))))))]) (vin_lt hq17)) rfl h9 dX10_in_19 ?_
    refine lv_iload_n hx hb dX10_in_20 rfl (lv_at hl 2 rfl) ?_
    refine lv_icmp_ne (tgt := 28) hx hb dX10_in_21 (by decide) (fun h9 => ?_) (fun h9 => ?_)
    · have hf := itf h9 hf
      refine lv_iconst (v := 0) hx hb dX10_in_28 (by decide) ?_
      cases hf
      exact g_zretX S hr (nar_bI false) hlocks (adV, fun _ => none, fun _ _ => 0) hP hD hS (Nat.le_refl _) (Nat.le_refl _) dX10_in_29
    · have hf := itt h9 hf
      refine lv_iconst (v := 1) hx hb dX10_in_24 (by decide) ?_
      refine lv_goto (tgt := 29) hx hb dX10_in_25 (by decide) ?_
      cases hf
      exact g_zretX S hr (nar_bI true) hlocks (adV, fun _ => none, fun _ _ => 0) hP hD hS (Nat.le_refl _) (Nat.le_refl _) dX10_in_29
set_option maxHeartbeats 4000000 in
set_option maxRecDepth 100000 in
theorem c_X10_less (a_n a_n_year a_n_parents a_n_letters a_n_union a_n_order a_n_gens a_n_levels a_n_kins a_n_col : Nat) (aw : Nat → Nat) (go : Nat → Option Nat) (kc : Nat → Nat → Int64) (n_persons : Int32) (n_unions : Int32) (n_rows : Int32) (n_gens : Nat → Int32) (n_levels : Nat → Int32) (n_un : Nat → Nat → Int32) (n_nu : Nat) (n_ln : Nat → Nat) (n_od : Nat → Nat → Int32) (n_no : Nat) (v1 : Int32) (r9 : Int32) (hf : p10_less n_gens n_levels n_un n_nu v1 = some r9) : gXM l dC dI cI cJ cZ cK adK adV yX10_less cX10_less 3 (some .int) (1) (21) 0 0 [.ref a_n, .int v1] ([(a_n, .inr (10, [.int n_persons, .int n_unions, .ref a_n_year, .ref a_n_parents, .ref a_n_letters, .ref a_n_union, .ref a_n_order, .int n_rows, .ref a_n_gens, .ref a_n_levels, .ref a_n_kins, .ref a_n_col])), (a_n_gens, .inl (cI, 16, .inl n_gens)), (a_n_kins, .inl (cK, 16, .inr (.inr (.inr (.inr (qK aw)))))), (a_n_levels, .inl (cI, 12, .inl n_levels)), (a_n_order, .inl (cZ, 16, .inr (.inr (.inr (.inr (qO aw n_no go)))))), (a_n_union, .inl (cZ, 12, .inr (.inr (.inr (.inr (qU aw n_nu))))))] ++ rws cI cJ aw n_un n_nu n_ln n_od n_no kc) (fun _ : EX => ([(a_n, .inr (10, [.int n_persons, .int n_unions, .ref a_n_year, .ref a_n_parents, .ref a_n_letters, .ref a_n_union, .ref a_n_order, .int n_rows, .ref a_n_gens, .ref a_n_levels, .ref a_n_kins, .ref a_n_col])), (a_n_gens, .inl (cI, 16, .inl n_gens)), (a_n_kins, .inl (cK, 16, .inr (.inr (.inr (.inr (qK aw)))))), (a_n_levels, .inl (cI, 12, .inl n_levels)), (a_n_order, .inl (cZ, 16, .inr (.inr (.inr (.inr (qO aw n_no go)))))), (a_n_union, .inl (cZ, 12, .inr (.inr (.inr (.inr (qU aw n_nu))))))] ++ rws cI cJ aw n_un n_nu n_ln n_od n_no kc)) (fun _ => some (.int r9)) := by
  refine g_startX (own := RX10) (by decide +kernel) rfl (Nat.le_of_ble_eq_true rfl) ?_
  intro p e s m below meth c A ls S hr hlocks hE hG hP hD hS hA hl hin
  have hFU : FU = 1024 := rfl
  have hx := S.1
  have hb := S.2.1
  have hml := S.2.2.1
  have hown := S.2.2.2.1
  have htg : ∀ z ∈ gw, z.before ([.ref a_n, .int v1] : List Value).toArray s = true := fun w h => S.2.2.2.2 w (List.mem_cons_of_mem _ h)
  have hl : lv_has ls 3 [(0, .ref a_n), (1, .int v1)] := hl
  have hS0 := hS
  obtain ⟨H, hH⟩ : ∃ H, H = s.heap := ⟨_, rfl⟩
  obtain ⟨locs, hlc⟩ : ∃ locs : List Loc, locs = [] := ⟨_, rfl⟩
  have hS : va_S A s.heap H locs := by rw [hH, hlc]; exact hS0
  have hP : va_P (dC, dI) vwCl ([(a_n, .inr (10, [.int n_persons, .int n_unions, .ref a_n_year, .ref a_n_parents, .ref a_n_letters, .ref a_n_union, .ref a_n_order, .int n_rows, .ref a_n_gens, .ref a_n_levels, .ref a_n_kins, .ref a_n_col])), (a_n_gens, .inl (cI, 16, .inl n_gens)), (a_n_kins, .inl (cK, 16, .inr (.inr (.inr (.inr (qK aw)))))), (a_n_levels, .inl (cI, 12, .inl n_levels)), (a_n_order, .inl (cZ, 16, .inr (.inr (.inr (.inr (qO aw n_no go)))))), (a_n_union, .inl (cZ, 12, .inr (.inr (.inr (.inr (qU aw n_nu))))))] ++ rws cI cJ aw n_un n_nu n_ln n_od n_no kc) H := by rw [hH]; exact hP
  suffices hgo : W p l e ({ frames := 1, cells := 0, slots := 0, locals := 21 }) s m ([.ref a_n, .int v1] : List Value).toArray below meth c H locs 0 0 (MQ below (gXQ dC dI (fun _ => some (.int r9)) A (fun _ : EX => ([(a_n, .inr (10, [.int n_persons, .int n_unions, .ref a_n_year, .ref a_n_parents, .ref a_n_letters, .ref a_n_union, .ref a_n_order, .int n_rows, .ref a_n_gens, .ref a_n_levels, .ref a_n_kins, .ref a_n_col])), (a_n_gens, .inl (cI, 16, .inl n_gens)), (a_n_kins, .inl (cK, 16, .inr (.inr (.inr (.inr (qK aw)))))), (a_n_levels, .inl (cI, 12, .inl n_levels)), (a_n_order, .inl (cZ, 16, .inr (.inr (.inr (.inr (qO aw n_no go)))))), (a_n_union, .inl (cZ, 12, .inr (.inr (.inr (.inr (qU aw n_nu))))))] ++ rws cI cJ aw n_un n_nu n_ln n_od n_no kc))) ([.ref a_n, .int v1] : List Value).toArray s 0 0 A) (F0 m 0 ls []) by rw [hH, hlc] at hgo; exact hgo
  rw [p10_less] at hf
  refine lv_aload_n hx hb dX10_less_0 rfl (lv_at hl 0 rfl) ?_
  refine lv_iload_n hx hb dX10_less_1 rfl (lv_at hl 1 rfl) ?_
  obtain ⟨r2, h9, hf⟩ := ob_s hf
  refine gxVQ (index := 72) S htg hE hG (c_X10_level a_n a_n_year a_n_parents a_n_letters a_n_union a_n_order a_n_gens a_n_levels a_n_kins a_n_col n_persons n_unions n_rows n_levels v1 r2 h9) mX10_level tw616 ⟨Nat.le_of_ble_eq_true rfl, Nat.le_of_ble_eq_true rfl⟩ hP hD hS hA ⟨Nat.zero_le _, Nat.zero_le _⟩ 0 10 rfl rfl rfl (X := [(a_n, .inr (10, [.int n_persons, .int n_unions, .ref a_n_year, .ref a_n_parents, .ref a_n_letters, .ref a_n_union, .ref a_n_order, .int n_rows, .ref a_n_gens, .ref a_n_levels, .ref a_n_kins, .ref a_n_col])), (a_n_gens, .inl (cI, 16, .inl n_gens)), (a_n_kins, .inl (cK, 16, .inr (.inr (.inr (.inr (qK aw)))))), (a_n_levels, .inl (cI, 12, .inl n_levels)), (a_n_order, .inl (cZ, 16, .inr (.inr (.inr (.inr (qO aw n_no go)))))), (a_n_union, .inl (cZ, 12, .inr (.inr (.inr (.inr (qU aw n_nu))))))]) (cx := [(a_n, .inr (10, [.int n_persons, .int n_unions, .ref a_n_year, .ref a_n_parents, .ref a_n_letters, .ref a_n_union, .ref a_n_order, .int n_rows, .ref a_n_gens, .ref a_n_levels, .ref a_n_kins, .ref a_n_col])), (a_n_levels, .inl (cI, 12, .inl n_levels))]) (pl := rws cI cJ aw n_un n_nu n_ln n_od n_no kc) (wr := [(a_n_gens, .inl (cI, 16, .inl n_gens)), (a_n_kins, .inl (cK, 16, .inr (.inr (.inr (.inr (qK aw)))))), (a_n_order, .inl (cZ, 16, .inr (.inr (.inr (.inr (qO aw n_no go)))))), (a_n_union, .inl (cZ, 12, .inr (.inr (.inr (.inr (qU aw n_nu))))))]) [0, 3] [1, 2, 4, 5] rfl rfl rfl rfl (by decide) (As := [.int v1]) (rest := []) rfl hl.1 rfl (Nat.le_of_ble_eq_true rfl) dX10_less_2 (fun H locs xx2 hP hD hS => ?_)
  refine W.eq (g2 := F0 m 5 ls [.int r2]) rfl ?_
  have hP : va_P (dC, dI) vwCl ([(a_n_gens, .inl (cI, 16, .inl n_gens)), (a_n_kins, .inl (cK, 16, .inr (.inr (.inr (.inr (qK aw)))))), (a_n_order, .inl (cZ, 16, .inr (.inr (.inr (.inr (qO aw n_no go)))))), (a_n_union, .inl (cZ, 12, .inr (.inr (.inr (.inr (qU aw n_nu)))))), (a_n, .inr (10, [.int n_persons, .int n_unions, .ref a_n_year, .ref a_n_parents, .ref a_n_letters, .ref a_n_union, .ref a_n_order, .int n_rows, .ref a_n_gens, .ref a_n_levels, .ref a_n_kins, .ref a_n_col])), (a_n_levels, .inl (cI, 12, .inl n_levels))] ++ rws cI cJ aw n_un n_nu n_ln n_od n_no kc) H := hP
  have hD : va_D A ([(a_n_gens, .inl (cI, 16, .inl n_gens)), (a_n_kins, .inl (cK, 16, .inr (.inr (.inr (.inr (qK aw)))))), (a_n_order, .inl (cZ, 16, .inr (.inr (.inr (.inr (qO aw n_no go)))))), (a_n_union, .inl (cZ, 12, .inr (.inr (.inr (.inr (qU aw n_nu)))))), (a_n, .inr (10, [.int n_persons, .int n_unions, .ref a_n_year, .ref a_n_parents, .ref a_n_letters, .ref a_n_union, .ref a_n_order, .int n_rows, .ref a_n_gens, .ref a_n_levels, .ref a_n_kins, .ref a_n_col])), (a_n_levels, .inl (cI, 12, .inl n_levels))] ++ rws cI cJ aw n_un n_nu n_ln n_od n_no kc) := hD
  refine lv_istore_n (lv' := [(2, .int r2), (0, .ref a_n), (1, .int v1)]) hx hb dX10_less_5 rfl hl (by decide) rfl (fun ls hl => ?_)
  refine lv_aload_n hx hb dX10_less_6 rfl (lv_at hl 1 rfl) ?_
  refine lv_aload_n hx hb dX10_less_7 rfl (lv_at hl 1 rfl) ?_
  refine va_get (D := (dC, dI)) (ci := 10) (v := .ref a_n_union) (C := RX10) (T := TX10) (N := 12) hx hb htg inX10 hown hE.1 hP 4 rfl rfl 5 (by decide) (htg _ tw552) (fun _ h9 => h9) rfl dX10_less_8 ?_
  refine lv_iload_n hx hb dX10_less_11 rfl (lv_at hl 2 rfl) ?_
  obtain ⟨h8, hf⟩ := gd_s hf
  obtain ⟨hq12, hf⟩ := gd_s hf
  refine g_aldR (b := (aw (3 * v1.toNatClampNeg))) hx hb hE hP 3 2 rfl rfl h8 (if_pos (vin_lt hq12)) dX10_less_12 ?_
  refine lv_iconst (v := 0) hx hb dX10_less_13 (by decide) ?_
  obtain ⟨h9, hf⟩ := gd_s hf
  refine va_iald hx hb hE.1 hP _ 0 (rU_get (X := [(a_n_gens, .inl (cI, 16, .inl n_gens)), (a_n_kins, .inl (cK, 16, .inr (.inr (.inr (.inr (qK aw)))))), (a_n_order, .inl (cZ, 16, .inr (.inr (.inr (.inr (qO aw n_no go)))))), (a_n_union, .inl (cZ, 12, .inr (.inr (.inr (.inr (qU aw n_nu)))))), (a_n, .inr (10, [.int n_persons, .int n_unions, .ref a_n_year, .ref a_n_parents, .ref a_n_letters, .ref a_n_union, .ref a_n_order, .int n_rows, .ref a_n_gens, .ref a_n_levels, .ref a_n_kins, .ref a_n_col])), (a_n_levels, .inl (cI, 12, .inl n_levels))]) (vin_lt hq12)) rfl h9 dX10_less_14 ?_
  obtain ⟨r15, h9, hf⟩ := ob_s hf
  refine gxVQ (index := 75) S htg hE hG (c_X10_gen a_n a_n_year a_n_parents a_n_letters a_n_union a_n_order a_n_gens a_n_levels a_n_kins a_n_col n_persons n_unions n_rows n_gens (n_un v1.toNatClampNeg (0 : Int32).toNatClampNeg) r15 h9) mX10_gen tw612 ⟨Nat.le_of_ble_eq_true rfl, Nat.le_of_ble_eq_true rfl⟩ hP hD hS hA ⟨Nat.zero_le _, Nat.zero_le _⟩ 4 10 rfl rfl rfl (X := [(a_n_gens, .inl (cI, 16, .inl n_gens)), (a_n_kins, .inl (cK, 16, .inr (.inr (.inr (.inr (qK aw)))))), (a_n_order, .inl (cZ, 16, .inr (.inr (.inr (.inr (qO aw n_no go)))))), (a_n_union, .inl (cZ, 12, .inr (.inr (.inr (.inr (qU aw n_nu)))))), (a_n, .inr (10, [.int n_persons, .int n_unions, .ref a_n_year, .ref a_n_parents, .ref a_n_letters, .ref a_n_union, .ref a_n_order, .int n_rows, .ref a_n_gens, .ref a_n_levels, .ref a_n_kins, .ref a_n_col])), (a_n_levels, .inl (cI, 12, .inl n_levels))]) (cx := [(a_n, .inr (10, [.int n_persons, .int n_unions, .ref a_n_year, .ref a_n_parents, .ref a_n_letters, .ref a_n_union, .ref a_n_order, .int n_rows, .ref a_n_gens, .ref a_n_levels, .ref a_n_kins, .ref a_n_col])), (a_n_gens, .inl (cI, 16, .inl n_gens))]) (pl := rws cI cJ aw n_un n_nu n_ln n_od n_no kc) (wr := [(a_n_kins, .inl (cK, 16, .inr (.inr (.inr (.inr (qK aw)))))), (a_n_order, .inl (cZ, 16, .inr (.inr (.inr (.inr (qO aw n_no go)))))), (a_n_union, .inl (cZ, 12, .inr (.inr (.inr (.inr (qU aw n_nu)))))), (a_n_levels, .inl (cI, 12, .inl n_levels))]) [4, 0] [1, 2, 3, 5] rfl rfl rfl rfl (by decide) (As := [.int (n_un v1.toNatClampNeg (0 : Int32).toNatClampNeg)]) (rest := []) rfl hl.1 rfl (Nat.le_of_ble_eq_true rfl) dX10_less_15 (fun H locs xx15 hP hD hS => ?_)
  refine W.eq (g2 := F0 m 18 ls [.int r15]) rfl ?_
  have hP : va_P (dC, dI) vwCl ([(a_n_kins, .inl (cK, 16, .inr (.inr (.inr (.inr (qK aw)))))), (a_n_order, .inl (cZ, 16, .inr (.inr (.inr (.inr (qO aw n_no go)))))), (a_n_union, .inl (cZ, 12, .inr (.inr (.inr (.inr (qU aw n_nu)))))), (a_n_levels, .inl (cI, 12, .inl n_levels)), (a_n, .inr (10, [.int n_persons, .int n_unions, .ref a_n_year, .ref a_n_parents, .ref a_n_letters, .ref a_n_union, .ref a_n_order, .int n_rows, .ref a_n_gens, .ref a_n_levels, .ref a_n_kins, .ref a_n_col])), (a_n_gens, .inl (cI, 16, .inl n_gens))] ++ rws cI cJ aw n_un n_nu n_ln n_od n_no kc) H := hP
  have hD : va_D A ([(a_n_kins, .inl (cK, 16, .inr (.inr (.inr (.inr (qK aw)))))), (a_n_order, .inl (cZ, 16, .inr (.inr (.inr (.inr (qO aw n_no go)))))), (a_n_union, .inl (cZ, 12, .inr (.inr (.inr (.inr (qU aw n_nu)))))), (a_n_levels, .inl (cI, 12, .inl n_levels)), (a_n, .inr (10, [.int n_persons, .int n_unions, .ref a_n_year, .ref a_n_parents, .ref a_n_letters, .ref a_n_union, .ref a_n_order, .int n_rows, .ref a_n_gens, .ref a_n_levels, .ref a_n_kins, .ref a_n_col])), (a_n_gens, .inl (cI, 16, .inl n_gens))] ++ rws cI cJ aw n_un n_nu n_ln n_od n_no kc) := hD
  refine lv_iload_n hx hb dX10_less_18 rfl (lv_at hl 0 rfl) ?_
  refine lv_icmp_ge (tgt := 33) hx hb dX10_less_19 (by decide) (fun h9 => ?_) (fun h9 => ?_)
  · have hf := itt h9 hf
    refine lv_aload_n hx hb dX10_less_33 rfl (lv_at hl 1 rfl) ?_
    refine lv_aload_n hx hb dX10_less_34 rfl (lv_at hl 1 rfl) ?_
    refine va_get (D := (dC, dI)) (ci := 10) (v := .ref a_n_union) (C := RX10) (T := TX10) (N := 12) hx hb htg inX10 hown hE.1 hP 4 rfl rfl 5 (by decide) (htg _ tw552) (fun _ h9 => h9) rfl dX10_less_35 ?_
    refine lv_iload_n hx hb dX10_less_38 rfl (lv_at hl 2 rfl) ?_
    obtain ⟨h8, hf⟩ := gd_s hf
    obtain ⟨hq39, hf⟩ := gd_s hf
    refine g_aldR (b := (aw (3 * v1.toNatClampNeg))) hx hb hE hP 2 2 rfl rfl h8 (if_pos (vin_lt hq39)) dX10_less_39 ?_
    refine lv_iconst (v := 1) hx hb dX10_less_40 (by decide) ?_
    obtain ⟨h9, hf⟩ := gd_s hf
    refine va_iald hx hb hE.1 hP _ 0 (rU_get (X := [(a_n_kins, .inl (cK, 16, .inr (.inr (.inr (.inr (qK aw)))))), (a_n_order, .inl (cZ, 16, .inr (.inr (.inr (.inr (qO aw n_no go)))))), (a_n_union, .inl (cZ, 12, .inr (.inr (.inr (.inr (qU aw n_nu)))))), (a_n_levels, .inl (cI, 12, .inl n_levels)), (a_n, .inr (10, [.int n_persons, .int n_unions, .ref a_n_year, .ref a_n_parents, .ref a_n_letters, .ref a_n_union, .ref a_n_order, .int n_rows, .ref a_n_gens, .ref a_n_levels, .ref a_n_kins, .ref a_n_col])), (a_n_gens, .inl (cI, 16, .inl n_gens))]) (vin_lt hq39)) rfl h9 dX10_less_41 ?_
    obtain ⟨r42, h9, hf⟩ := ob_s hf
    refine gxVQ (index := 75) S htg hE hG (c_X10_gen a_n a_n_year a_n_parents a_n_letters a_n_union a_n_order a_n_gens a_n_levels a_n_kins a_n_col n_persons n_unions n_rows n_gens (n_un v1.toNatClampNeg (1 : Int32).toNatClampNeg) r42 h9) mX10_gen tw612 ⟨Nat.le_of_ble_eq_true rfl, Nat.le_of_ble_eq_true rfl⟩ hP hD hS hA ⟨Nat.zero_le _, Nat.zero_le _⟩ 4 10 rfl rfl rfl (X := [(a_n_kins, .inl (cK, 16, .inr (.inr (.inr (.inr (qK aw)))))), (a_n_order, .inl (cZ, 16, .inr (.inr (.inr (.inr (qO aw n_no go)))))), (a_n_union, .inl (cZ, 12, .inr (.inr (.inr (.inr (qU aw n_nu)))))), (a_n_levels, .inl (cI, 12, .inl n_levels)), (a_n, .inr (10, [.int n_persons, .int n_unions, .ref a_n_year, .ref a_n_parents, .ref a_n_letters, .ref a_n_union, .ref a_n_order, .int n_rows, .ref a_n_gens, .ref a_n_levels, .ref a_n_kins, .ref a_n_col])), (a_n_gens, .inl (cI, 16, .inl n_gens))]) (cx := [(a_n, .inr (10, [.int n_persons, .int n_unions, .ref a_n_year, .ref a_n_parents, .ref a_n_letters, .ref a_n_union, .ref a_n_order, .int n_rows, .ref a_n_gens, .ref a_n_levels, .ref a_n_kins, .ref a_n_col])), (a_n_gens, .inl (cI, 16, .inl n_gens))]) (pl := rws cI cJ aw n_un n_nu n_ln n_od n_no kc) (wr := [(a_n_kins, .inl (cK, 16, .inr (.inr (.inr (.inr (qK aw)))))), (a_n_order, .inl (cZ, 16, .inr (.inr (.inr (.inr (qO aw n_no go)))))), (a_n_union, .inl (cZ, 12, .inr (.inr (.inr (.inr (qU aw n_nu)))))), (a_n_levels, .inl (cI, 12, .inl n_levels))]) [4, 5] [0, 1, 2, 3] rfl rfl rfl rfl (by decide) (As := [.int (n_un v1.toNatClampNeg (1 : Int32).toNatClampNeg)]) (rest := []) rfl hl.1 rfl (Nat.le_of_ble_eq_true rfl) dX10_less_42 (fun H locs xx42 hP hD hS => ?_)
    refine W.eq (g2 := F0 m 45 ls [.int r42]) rfl ?_
    have hP : va_P (dC, dI) vwCl ([(a_n_kins, .inl (cK, 16, .inr (.inr (.inr (.inr (qK aw)))))), (a_n_order, .inl (cZ, 16, .inr (.inr (.inr (.inr (qO aw n_no go)))))), (a_n_union, .inl (cZ, 12, .inr (.inr (.inr (.inr (qU aw n_nu)))))), (a_n_levels, .inl (cI, 12, .inl n_levels)), (a_n, .inr (10, [.int n_persons, .int n_unions, .ref a_n_year, .ref a_n_parents, .ref a_n_letters, .ref a_n_union, .ref a_n_order, .int n_rows, .ref a_n_gens, .ref a_n_levels, .ref a_n_kins, .ref a_n_col])), (a_n_gens, .inl (cI, 16, .inl n_gens))] ++ rws cI cJ aw n_un n_nu n_ln n_od n_no kc) H := hP
    have hD : va_D A ([(a_n_kins, .inl (cK, 16, .inr (.inr (.inr (.inr (qK aw)))))), (a_n_order, .inl (cZ, 16, .inr (.inr (.inr (.inr (qO aw n_no go)))))), (a_n_union, .inl (cZ, 12, .inr (.inr (.inr (.inr (qU aw n_nu)))))), (a_n_levels, .inl (cI, 12, .inl n_levels)), (a_n, .inr (10, [.int n_persons, .int n_unions, .ref a_n_year, .ref a_n_parents, .ref a_n_letters, .ref a_n_union, .ref a_n_order, .int n_rows, .ref a_n_gens, .ref a_n_levels, .ref a_n_kins, .ref a_n_col])), (a_n_gens, .inl (cI, 16, .inl n_gens))] ++ rws cI cJ aw n_un n_nu n_ln n_od n_no kc) := hD
    refine lv_iload_n hx hb dX10_less_45 rfl (lv_at hl 0 rfl) ?_
    refine lv_icmp_ge (tgt := 60) hx hb dX10_less_46 (by decide) (fun h9 => ?_) (fun h9 => ?_)
    · have hf := itt h9 hf
      refine lv_iconst (v := -1) hx hb dX10_less_60 (by decide) ?_
      cases hf
      exact g_iretX S hr hlocks (adV, fun _ => none, fun _ _ => 0) (hP.part [4, 5, 0, 3, 1, 2] rfl) (hD.part [4, 5, 0, 3, 1, 2] rfl rfl) hS (Nat.le_refl _) (Nat.le_refl _) dX10_less_61
    · have hf := itf h9 hf
      refine lv_aload_n hx hb dX10_less_49 rfl (lv_at hl 1 rfl) ?_
      refine va_get (D := (dC, dI)) (ci := 10) (v := .ref a_n_union) (C := RX10) (T := TX10) (N := 12) hx hb htg inX10 hown hE.1 hP 4 rfl rfl 5 (by decide) (htg _ tw552) (fun _ h9 => h9) rfl dX10_less_50 ?_
      refine lv_iload_n hx hb dX10_less_53 rfl (lv_at hl 2 rfl) ?_
      obtain ⟨h8, hf⟩ := gd_s hf
      obtain ⟨hq54, hf⟩ := gd_s hf
      refine g_aldR (b := (aw (3 * v1.toNatClampNeg))) hx hb hE hP 2 2 rfl rfl h8 (if_pos (vin_lt hq54)) dX10_less_54 ?_
      refine lv_iconst (v := 1) hx hb dX10_less_55 (by decide) ?_
      obtain ⟨h9, hf⟩ := gd_s hf
      refine va_iald hx hb hE.1 hP _ 0 (rU_get (X := [(a_n_kins, .inl (cK, 16, .inr (.inr (.inr (.inr (qK aw)))))), (a_n_order, .inl (cZ, 16, .inr (.inr (.inr (.inr (qO aw n_no go)))))), (a_n_union, .inl (cZ, 12, .inr (.inr (.inr (.inr (qU aw n_nu)))))), (a_n_levels, .inl (cI, 12, .inl n_levels)), (a_n, .inr (10, [.int n_persons, .int n_unions, .ref a_n_year, .ref a_n_parents, .ref a_n_letters, .ref a_n_union, .ref a_n_order, .int n_rows, .ref a_n_gens, .ref a_n_levels, .ref a_n_kins, .ref a_n_col])), (a_n_gens, .inl (cI, 16, .inl n_gens))]) (vin_lt hq54)) rfl h9 dX10_less_56 ?_
      refine lv_goto (tgt := 61) hx hb dX10_less_57 (by decide) ?_
      cases hf
      exact g_iretX S hr hlocks (adV, fun _ => none, fun _ _ => 0) (hP.part [4, 5, 0, 3, 1, 2] rfl) (hD.part [4, 5, 0, 3, 1, 2] rfl rfl) hS (Nat.le_refl _) (Nat.le_refl _) dX10_less_61
  · have hf := itf h9 hf
    refine lv_aload_n hx hb dX10_less_22 rfl (lv_at hl 1 rfl) ?_
    refine va_get (D := (dC, dI)) (ci := 10) (v := .ref a_n_union) (C := RX10) (T := TX10) (N := 12) hx hb htg inX10 hown hE.1 hP 4 rfl rfl 5 (by decide) (htg _ tw552) (fun _ h9 => h9) rfl dX10_less_23 ?_
    refine lv_iload_n hx hb dX10_less_26 rfl (lv_at hl 2 rfl) ?_
    obtain ⟨h8, hf⟩ := gd_s hf
    obtain ⟨hq27, hf⟩ := gd_s hf
    refine g_aldR (b := (aw (3 * v1.toNatClampNeg))) hx hb hE hP 2 2 rfl rfl h8 (if_pos (vin_lt hq27)) dX10_less_27 ?_
    refine lv_iconst (v := 0) hx hb dX10_less_28 (by decide) ?_
    obtain ⟨h9, hf⟩ := gd_s hf
    refine va_iald hx hb hE.1 hP _ 0 (rU_get (X := [(a_n_kins, .inl (cK, 16, .inr (.inr (.inr (.inr (qK aw)))))), (a_n_order, .inl (cZ, 16, .inr (.inr (.inr (.inr (qO aw n_no go)))))), (a_n_union, .inl (cZ, 12, .inr (.inr (.inr (.inr (qU aw n_nu)))))), (a_n_levels, .inl (cI, 12, .inl n_levels)), (a_n, .inr (10, [.int n_persons, .int n_unions, .ref a_n_year, .ref a_n_parents, .ref a_n_letters, .ref a_n_union, .ref a_n_order, .int n_rows, .ref a_n_gens, .ref a_n_levels, .ref a_n_kins, .ref a_n_col])), (a_n_gens, .inl (cI, 16, .inl n_gens))]) (vin_lt hq27)) rfl h9 dX10_less_29 ?_
    refine lv_goto (tgt := 61) hx hb dX10_less_30 (by decide) ?_
    cases hf
    exact g_iretX S hr hlocks (adV, fun _ => none, fun _ _ => 0) (hP.part [4, 5, 0, 3, 1, 2] rfl) (hD.part [4, 5, 0, 3, 1, 2] rfl rfl) hS (Nat.le_refl _) (Nat.le_refl _) dX10_less_61
set_option maxHeartbeats 4000000 in
set_option maxRecDepth 100000 in
theorem c_X10_finds_o (kF : (Nat → Int32) → (Nat → Nat → Int32) → Nat → Int32 → Option (Int32)) (fF lF : Nat) (hbF : 60 ≤ fF) (hbL : 3000 ≤ lF) (hF : ∀ (a_n a_n_year a_n_parents a_n_letters a_n_union a_n_order a_n_gens a_n_levels a_n_kins a_n_col : Nat) (aw : Nat → Nat) (go : Nat → Option Nat) (kc : Nat → Nat → Int64) (n_persons : Int32) (n_unions : Int32) (n_rows : Int32) (n_parents : Nat → Int32) (n_un : Nat → Nat → Int32) (n_nu : Nat) (n_ln : Nat → Nat) (n_od : Nat → Nat → Int32) (n_no : Nat) (v1 : Int32) (r9 : Int32) (_ : kF n_parents n_un n_nu v1 = some r9), gXM l dC dI cI cJ cZ cK adK adV yX10_finds cX10_finds 2 (some .int) fF lF 0 0 [.ref a_n, .int v1] ([(a_n, .inr (10, [.int n_persons, .int n_unions, .ref a_n_year, .ref a_n_parents, .ref a_n_letters, .ref a_n_union, .ref a_n_order, .int n_rows, .ref a_n_gens, .ref a_n_levels, .ref a_n_kins, .ref a_n_col])), (a_n_kins, .inl (cK, 16, .inr (.inr (.inr (.inr (qK aw)))))), (a_n_order, .inl (cZ, 16, .inr (.inr (.inr (.inr (qO aw n_no go)))))), (a_n_parents, .inl (cI, 16, .inl n_parents)), (a_n_union, .inl (cZ, 12, .inr (.inr (.inr (.inr (qU aw n_nu))))))] ++ rws cI cJ aw n_un n_nu n_ln n_od n_no kc) (fun _ : EX => ([(a_n, .inr (10, [.int n_persons, .int n_unions, .ref a_n_year, .ref a_n_parents, .ref a_n_letters, .ref a_n_union, .ref a_n_order, .int n_rows, .ref a_n_gens, .ref a_n_levels, .ref a_n_kins, .ref a_n_col])), (a_n_kins, .inl (cK, 16, .inr (.inr (.inr (.inr (qK aw)))))), (a_n_order, .inl (cZ, 16, .inr (.inr (.inr (.inr (qO aw n_no go)))))), (a_n_parents, .inl (cI, 16, .inl n_parents)), (a_n_union, .inl (cZ, 12, .inr (.inr (.inr (.inr (qU aw n_nu))))))] ++ rws cI cJ aw n_un n_nu n_ln n_od n_no kc)) (fun _ => some (.int r9))) (a_n a_n_year a_n_parents a_n_letters a_n_union a_n_order a_n_gens a_n_levels a_n_kins a_n_col : Nat) (aw : Nat → Nat) (go : Nat → Option Nat) (kc : Nat → Nat → Int64) (n_persons : Int32) (n_unions : Int32) (n_rows : Int32) (n_parents : Nat → Int32) (n_un : Nat → Nat → Int32) (n_nu : Nat) (n_ln : Nat → Nat) (n_od : Nat → Nat → Int32) (n_no : Nat) (v1 : Int32) (r9 : Int32) (hf : p10_finds_O kF n_parents n_un n_nu v1 = some r9) : gXM l dC dI cI cJ cZ cK adK adV yX10_finds cX10_finds 2 (some .int) (fF + 1) (lF + 21) 0 0 [.ref a_n, .int v1] ([(a_n, .inr (10, [.int n_persons, .int n_unions, .ref a_n_year, .ref a_n_parents, .ref a_n_letters, .ref a_n_union, .ref a_n_order, .int n_rows, .ref a_n_gens, .ref a_n_levels, .ref a_n_kins, .ref a_n_col])), (a_n_kins, .inl (cK, 16, .inr (.inr (.inr (.inr (qK aw)))))), (a_n_order, .inl (cZ, 16, .inr (.inr (.inr (.inr (qO aw n_no go)))))), (a_n_parents, .inl (cI, 16, .inl n_parents)), (a_n_union, .inl (cZ, 12, .inr (.inr (.inr (.inr (qU aw n_nu))))))] ++ rws cI cJ aw n_un n_nu n_ln n_od n_no kc) (fun _ : EX => ([(a_n, .inr (10, [.int n_persons, .int n_unions, .ref a_n_year, .ref a_n_parents, .ref a_n_letters, .ref a_n_union, .ref a_n_order, .int n_rows, .ref a_n_gens, .ref a_n_levels, .ref a_n_kins, .ref a_n_col])), (a_n_kins, .inl (cK, 16, .inr (.inr (.inr (.inr (qK aw)))))), (a_n_order, .inl (cZ, 16, .inr (.inr (.inr (.inr (qO aw n_no go)))))), (a_n_parents, .inl (cI, 16, .inl n_parents)), (a_n_union, .inl (cZ, 12, .inr (.inr (.inr (.inr (qU aw n_nu))))))] ++ rws cI cJ aw n_un n_nu n_ln n_od n_no kc)) (fun _ => some (.int r9)) := by
  refine g_startX (own := RX10) (by decide +kernel) rfl (Nat.le_of_ble_eq_true rfl) ?_
  intro p e s m below meth c A ls S hr hlocks hE hG hP hD hS hA hl hin
  have hFU : FU = 1024 := rfl
  have hx := S.1
  have hb := S.2.1
  have hml := S.2.2.1
  have hown := S.2.2.2.1
  have htg : ∀ z ∈ gw, z.before ([.ref a_n, .int v1] : List Value).toArray s = true := fun w h => S.2.2.2.2 w (List.mem_cons_of_mem _ h)
  have hl : lv_has ls 2 [(0, .ref a_n), (1, .int v1)] := hl
  have hS0 := hS
  obtain ⟨H, hH⟩ : ∃ H, H = s.heap := ⟨_, rfl⟩
  obtain ⟨locs, hlc⟩ : ∃ locs : List Loc, locs = [] := ⟨_, rfl⟩
  have hS : va_S A s.heap H locs := by rw [hH, hlc]; exact hS0
  have hP : va_P (dC, dI) vwCl ([(a_n, .inr (10, [.int n_persons, .int n_unions, .ref a_n_year, .ref a_n_parents, .ref a_n_letters, .ref a_n_union, .ref a_n_order, .int n_rows, .ref a_n_gens, .ref a_n_levels, .ref a_n_kins, .ref a_n_col])), (a_n_kins, .inl (cK, 16, .inr (.inr (.inr (.inr (qK aw)))))), (a_n_order, .inl (cZ, 16, .inr (.inr (.inr (.inr (qO aw n_no go)))))), (a_n_parents, .inl (cI, 16, .inl n_parents)), (a_n_union, .inl (cZ, 12, .inr (.inr (.inr (.inr (qU aw n_nu))))))] ++ rws cI cJ aw n_un n_nu n_ln n_od n_no kc) H := by rw [hH]; exact hP
  suffices hgo : W p l e ({ frames := fF + 1, cells := 0, slots := 0, locals := lF + 21 }) s m ([.ref a_n, .int v1] : List Value).toArray below meth c H locs 0 0 (MQ below (gXQ dC dI (fun _ => some (.int r9)) A (fun _ : EX => ([(a_n, .inr (10, [.int n_persons, .int n_unions, .ref a_n_year, .ref a_n_parents, .ref a_n_letters, .ref a_n_union, .ref a_n_order, .int n_rows, .ref a_n_gens, .ref a_n_levels, .ref a_n_kins, .ref a_n_col])), (a_n_kins, .inl (cK, 16, .inr (.inr (.inr (.inr (qK aw)))))), (a_n_order, .inl (cZ, 16, .inr (.inr (.inr (.inr (qO aw n_no go)))))), (a_n_parents, .inl (cI, 16, .inl n_parents)), (a_n_union, .inl (cZ, 12, .inr (.inr (.inr (.inr (qU aw n_nu))))))] ++ rws cI cJ aw n_un n_nu n_ln n_od n_no kc))) ([.ref a_n, .int v1] : List Value).toArray s 0 0 A) (F0 m 0 ls []) by rw [hH, hlc] at hgo; exact hgo
  rw [p10_finds_O] at hf
  refine lv_aload_n hx hb dX10_finds_0 rfl (lv_at hl 0 rfl) ?_
  refine va_get (D := (dC, dI)) (ci := 10) (v := .ref a_n_parents) (C := RX10) (T := TX10) (N := 12) hx hb htg inX10 hown hE.1 hP 0 rfl rfl 3 (by decide) (htg _ tw548) (fun _ h9 => h9) rfl dX10_finds_1 ?_
  refine lv_iload_n hx hb dX10_finds_4 rfl (lv_at hl 1 rfl) ?_
  obtain ⟨h9, hf⟩ := gd_s hf
  refine va_iald hx hb hE.1 hP 3 0 rfl rfl h9 dX10_finds_5 ?_
  refine lv_if_ge (tgt := 13) hx hb dX10_finds_6 (by decide) (fun h9 => ?_) (fun h9 => ?_)
  · have hf := itt h9 hf
    refine lv_iconst (v := 1) hx hb dX10_finds_13 (by decide) ?_
    refine lv_aload_n hx hb dX10_finds_14 rfl (lv_at hl 0 rfl) ?_
    refine lv_aload_n hx hb dX10_finds_15 rfl (lv_at hl 0 rfl) ?_
    refine va_get (D := (dC, dI)) (ci := 10) (v := .ref a_n_union) (C := RX10) (T := TX10) (N := 12) hx hb htg inX10 hown hE.1 hP 0 rfl rfl 5 (by decide) (htg _ tw552) (fun _ h9 => h9) rfl dX10_finds_16 ?_
    refine lv_aload_n hx hb dX10_finds_19 rfl (lv_at hl 0 rfl) ?_
    refine va_get (D := (dC, dI)) (ci := 10) (v := .ref a_n_parents) (C := RX10) (T := TX10) (N := 12) hx hb htg inX10 hown hE.1 hP 0 rfl rfl 3 (by decide) (htg _ tw548) (fun _ h9 => h9) rfl dX10_finds_20 ?_
    refine lv_iload_n hx hb dX10_finds_23 rfl (lv_at hl 1 rfl) ?_
    obtain ⟨h9, hf⟩ := gd_s hf
    refine va_iald hx hb hE.1 hP 3 0 rfl rfl h9 dX10_finds_24 ?_
    obtain ⟨t25, h9⟩ : ∃ z : Int32, z = (n_parents v1.toNatClampNeg) := ⟨_, rfl⟩
    rw [← h9]
    have hf := lb_e h9 hf
    obtain ⟨h8, hf⟩ := gd_s hf
    obtain ⟨hq25, hf⟩ := gd_s hf
    refine g_aldR (b := (aw (3 * t25.toNatClampNeg))) hx hb hE hP 4 2 rfl rfl h8 (if_pos (vin_lt hq25)) dX10_finds_25 ?_
    refine lv_iconst (v := 0) hx hb dX10_finds_26 (by decide) ?_
    obtain ⟨h9, hf⟩ := gd_s hf
    refine va_iald hx hb hE.1 hP _ 0 (rU_get (X := [(a_n, .inr (10, [.int n_persons, .int n_unions, .ref a_n_year, .ref a_n_parents, .ref a_n_letters, .ref a_n_union, .ref a_n_order, .int n_rows, .ref a_n_gens, .ref a_n_levels, .ref a_n_kins, .ref a_n_col])), (a_n_kins, .inl (cK, 16, .inr (.inr (.inr (.inr (qK aw)))))), (a_n_order, .inl (cZ, 16, .inr (.inr (.inr (.inr (qO aw n_no go)))))), (a_n_parents, .inl (cI, 16, .inl n_parents)), (a_n_union, .inl (cZ, 12, .inr (.inr (.inr (.inr (qU aw n_nu))))))]) (vin_lt hq25)) rfl h9 dX10_finds_27 ?_
    obtain ⟨r28, h9, hf⟩ := ob_s hf
    refine gxVP (index := 59) S htg hE hG (hF a_n a_n_year a_n_parents a_n_letters a_n_union a_n_order a_n_gens a_n_levels a_n_kins a_n_col aw go kc n_persons n_unions n_rows n_parents n_un n_nu n_ln n_od n_no (n_un t25.toNatClampNeg (0 : Int32).toNatClampNeg) r28 h9) mX10_finds tw606 ⟨(show fF + 1 ≤ fF + 1 by omega), (show 8 + (2 + 11) + (lF) ≤ lF + 21 by omega)⟩ hP hD hS hA ⟨Nat.zero_le _, Nat.zero_le _⟩ 0 10 rfl rfl rfl (X := [(a_n, .inr (10, [.int n_persons, .int n_unions, .ref a_n_year, .ref a_n_parents, .ref a_n_letters, .ref a_n_union, .ref a_n_order, .int n_rows, .ref a_n_gens, .ref a_n_levels, .ref a_n_kins, .ref a_n_col])), (a_n_kins, .inl (cK, 16, .inr (.inr (.inr (.inr (qK aw)))))), (a_n_order, .inl (cZ, 16, .inr (.inr (.inr (.inr (qO aw n_no go)))))), (a_n_parents, .inl (cI, 16, .inl n_parents)), (a_n_union, .inl (cZ, 12, .inr (.inr (.inr (.inr (qU aw n_nu))))))]) (cx := [(a_n, .inr (10, [.int n_persons, .int n_unions, .ref a_n_year, .ref a_n_parents, .ref a_n_letters, .ref a_n_union, .ref a_n_order, .int n_rows, .ref a_n_gens, .ref a_n_levels, .ref a_n_kins, .ref a_n_col])), (a_n_kins, .inl (cK, 16, .inr (.inr (.inr (.inr (qK aw)))))), (a_n_order, .inl (cZ, 16, .inr (.inr (.inr (.inr (qO aw n_no go)))))), (a_n_parents, .inl (cI, 16, .inl n_parents)), (a_n_union, .inl (cZ, 12, .inr (.inr (.inr (.inr (qU aw n_nu))))))]) (pl := rws cI cJ aw n_un n_nu n_ln n_od n_no kc) (wr := []) [0, 1, 2, 3, 4] [] rfl rfl rfl rfl (by decide) (As := [.int (n_un t25.toNatClampNeg (0 : Int32).toNatClampNeg)]) (rest := [.int (1 : Int32)]) rfl hl.1 rfl (Nat.le_of_ble_eq_true rfl) dX10_finds_28 (fun H locs xx28 hP hD hS => ?_)
    refine W.eq (g2 := F0 m 31 ls [.int r28, .int (1 : Int32)]) rfl ?_
    have hP : va_P (dC, dI) vwCl ([(a_n, .inr (10, [.int n_persons, .int n_unions, .ref a_n_year, .ref a_n_parents, .ref a_n_letters, .ref a_n_union, .ref a_n_order, .int n_rows, .ref a_n_gens, .ref a_n_levels, .ref a_n_kins, .ref a_n_col])), (a_n_kins, .inl (cK, 16, .inr (.inr (.inr (.inr (qK aw)))))), (a_n_order, .inl (cZ, 16, .inr (.inr (.inr (.inr (qO aw n_no go)))))), (a_n_parents, .inl (cI, 16, .inl n_parents)), (a_n_union, .inl (cZ, 12, .inr (.inr (.inr (.inr (qU aw n_nu))))))] ++ rws cI cJ aw n_un n_nu n_ln n_od n_no kc) H := hP
    have hD : va_D A ([(a_n, .inr (10, [.int n_persons, .int n_unions, .ref a_n_year, .ref a_n_parents, .ref a_n_letters, .ref a_n_union, .ref a_n_order, .int n_rows, .ref a_n_gens, .ref a_n_levels, .ref a_n_kins, .ref a_n_col])), (a_n_kins, .inl (cK, 16, .inr (.inr (.inr (.inr (qK aw)))))), (a_n_order, .inl (cZ, 16, .inr (.inr (.inr (.inr (qO aw n_no go)))))), (a_n_parents, .inl (cI, 16, .inl n_parents)), (a_n_union, .inl (cZ, 12, .inr (.inr (.inr (.inr (qU aw n_nu))))))] ++ rws cI cJ aw n_un n_nu n_ln n_od n_no kc) := hD
    refine lv_aload_n hx hb dX10_finds_31 rfl (lv_at hl 0 rfl) ?_
    refine lv_aload_n hx hb dX10_finds_32 rfl (lv_at hl 0 rfl) ?_
    refine va_get (D := (dC, dI)) (ci := 10) (v := .ref a_n_union) (C := RX10) (T := TX10) (N := 12) hx hb htg inX10 hown hE.1 hP 0 rfl rfl 5 (by decide) (htg _ tw552) (fun _ h9 => h9) rfl dX10_finds_33 ?_
    refine lv_aload_n hx hb dX10_finds_36 rfl (lv_at hl 0 rfl) ?_
    refine va_get (D := (dC, dI)) (ci := 10) (v := .ref a_n_parents) (C := RX10) (T := TX10) (N := 12) hx hb htg inX10 hown hE.1 hP 0 rfl rfl 3 (by decide) (htg _ tw548) (fun _ h9 => h9) rfl dX10_finds_37 ?_
    refine lv_iload_n hx hb dX10_finds_40 rfl (lv_at hl 1 rfl) ?_
    obtain ⟨h9, hf⟩ := gd_s hf
    refine va_iald hx hb hE.1 hP 3 0 rfl rfl h9 dX10_finds_41 ?_
    obtain ⟨t42, h9⟩ : ∃ z : Int32, z = (n_parents v1.toNatClampNeg) := ⟨_, rfl⟩
    rw [← h9]
    have hf := lb_e h9 hf
    obtain ⟨h8, hf⟩ := gd_s hf
    obtain ⟨hq42, hf⟩ := gd_s hf
    refine g_aldR (b := (aw (3 * t42.toNatClampNeg))) hx hb hE hP 4 2 rfl rfl h8 (if_pos (vin_lt hq42)) dX10_finds_42 ?_
    refine lv_iconst (v := 1) hx hb dX10_finds_43 (by decide) ?_
    obtain ⟨h9, hf⟩ := gd_s hf
    refine va_iald hx hb hE.1 hP _ 0 (rU_get (X := [(a_n, .inr (10, [.int n_persons, .int n_unions, .ref a_n_year, .ref a_n_parents, .ref a_n_letters, .ref a_n_union, .ref a_n_order, .int n_rows, .ref a_n_gens, .ref a_n_levels, .ref a_n_kins, .ref a_n_col])), (a_n_kins, .inl (cK, 16, .inr (.inr (.inr (.inr (qK aw)))))), (a_n_order, .inl (cZ, 16, .inr (.inr (.inr (.inr (qO aw n_no go)))))), (a_n_parents, .inl (cI, 16, .inl n_parents)), (a_n_union, .inl (cZ, 12, .inr (.inr (.inr (.inr (qU aw n_nu))))))]) (vin_lt hq42)) rfl h9 dX10_finds_44 ?_
    obtain ⟨r45, h9, hf⟩ := ob_s hf
    refine gxVP (index := 59) S htg hE hG (hF a_n a_n_year a_n_parents a_n_letters a_n_union a_n_order a_n_gens a_n_levels a_n_kins a_n_col aw go kc n_persons n_unions n_rows n_parents n_un n_nu n_ln n_od n_no (n_un t42.toNatClampNeg (1 : Int32).toNatClampNeg) r45 h9) mX10_finds tw606 ⟨(show fF + 1 ≤ fF + 1 by omega), (show 8 + (2 + 11) + (lF) ≤ lF + 21 by omega)⟩ hP hD hS hA ⟨Nat.zero_le _, Nat.zero_le _⟩ 0 10 rfl rfl rfl (X := [(a_n, .inr (10, [.int n_persons, .int n_unions, .ref a_n_year, .ref a_n_parents, .ref a_n_letters, .ref a_n_union, .ref a_n_order, .int n_rows, .ref a_n_gens, .ref a_n_levels, .ref a_n_kins, .ref a_n_col])), (a_n_kins, .inl (cK, 16, .inr (.inr (.inr (.inr (qK aw)))))), (a_n_order, .inl (cZ, 16, .inr (.inr (.inr (.inr (qO aw n_no go)))))), (a_n_parents, .inl (cI, 16, .inl n_parents)), (a_n_union, .inl (cZ, 12, .inr (.inr (.inr (.inr (qU aw n_nu))))))]) (cx := [(a_n, .inr (10, [.int n_persons, .int n_unions, .ref a_n_year, .ref a_n_parents, .ref a_n_letters, .ref a_n_union, .ref a_n_order, .int n_rows, .ref a_n_gens, .ref a_n_levels, .ref a_n_kins, .ref a_n_col])), (a_n_kins, .inl (cK, 16, .inr (.inr (.inr (.inr (qK aw)))))), (a_n_order, .inl (cZ, 16, .inr (.inr (.inr (.inr (qO aw n_no go)))))), (a_n_parents, .inl (cI, 16, .inl n_parents)), (a_n_union, .inl (cZ, 12, .inr (.inr (.inr (.inr (qU aw n_nu))))))]) (pl := rws cI cJ aw n_un n_nu n_ln n_od n_no kc) (wr := []) [0, 1, 2, 3, 4] [] rfl rfl rfl rfl (by decide) (As := [.int (n_un t42.toNatClampNeg (1 : Int32).toNatClampNeg)]) (rest := [.int r28, .int (1 : Int32)]) rfl hl.1 rfl (Nat.le_of_ble_eq_true rfl) dX10_finds_45 (fun H locs xx45 hP hD hS => ?_)
    refine W.eq (g2 := F0 m 48 ls [.int r45, .int r28, .int (1 : Int32)]) rfl ?_
    have hP : va_P (dC, dI) vwCl ([(a_n, .inr (10, [.int n_persons, .int n_unions, .ref a_n_year, .ref a_n_parents, .ref a_n_letters, .ref a_n_union, .ref a_n_order, .int n_rows, .ref a_n_gens, .ref a_n_levels, .ref a_n_kins, .ref a_n_col])), (a_n_kins, .inl (cK, 16, .inr (.inr (.inr (.inr (qK aw)))))), (a_n_order, .inl (cZ, 16, .inr (.inr (.inr (.inr (qO aw n_no go)))))), (a_n_parents, .inl (cI, 16, .inl n_parents)), (a_n_union, .inl (cZ, 12, .inr (.inr (.inr (.inr (qU aw n_nu))))))] ++ rws cI cJ aw n_un n_nu n_ln n_od n_no kc) H := hP
    have hD : va_D A ([(a_n, .inr (10, [.int n_persons, .int n_unions, .ref a_n_year, .ref a_n_parents, .ref a_n_letters, .ref a_n_union, .ref a_n_order, .int n_rows, .ref a_n_gens, .ref a_n_levels, .ref a_n_kins, .ref a_n_col])), (a_n_kins, .inl (cK, 16, .inr (.inr (.inr (.inr (qK aw)))))), (a_n_order, .inl (cZ, 16, .inr (.inr (.inr (.inr (qO aw n_no go)))))), (a_n_parents, .inl (cI, 16, .inl n_parents)), (a_n_union, .inl (cZ, 12, .inr (.inr (.inr (.inr (qU aw n_nu))))))] ++ rws cI cJ aw n_un n_nu n_ln n_od n_no kc) := hD
    refine va_mmax hx hb (hml.trans hl.1.symm) hown (htg _ tw610) (htg _ tw490) (htg _ tw11) (htg _ tw491) (Nat.le_of_ble_eq_true rfl) (Nat.le_of_ble_eq_true rfl) (Nat.zero_le _) (Nat.zero_le _) dX10_finds_48 ?_
    refine W.eq (g2 := F0 m 51 ls [.int (imax r28 r45), .int (1 : Int32)]) rfl ?_
    refine lv_iadd hx hb dX10_finds_51 ?_
    cases hf
    exact g_iretX S hr hlocks (adV, fun _ => none, fun _ _ => 0) hP hD hS (Nat.le_refl _) (Nat.le_refl _) dX10_finds_52
  · have hf := itf h9 hf
    refine lv_iconst (v := 0) hx hb dX10_finds_9 (by decide) ?_
    refine lv_goto (tgt := 52) hx hb dX10_finds_10 (by decide) ?_
    cases hf
    exact g_iretX S hr hlocks (adV, fun _ => none, fun _ _ => 0) hP hD hS (Nat.le_refl _) (Nat.le_refl _) dX10_finds_52
theorem c_X10_finds_d : ∀ (d : Nat) (a_n a_n_year a_n_parents a_n_letters a_n_union a_n_order a_n_gens a_n_levels a_n_kins a_n_col : Nat) (aw : Nat → Nat) (go : Nat → Option Nat) (kc : Nat → Nat → Int64) (n_persons : Int32) (n_unions : Int32) (n_rows : Int32) (n_parents : Nat → Int32) (n_un : Nat → Nat → Int32) (n_nu : Nat) (n_ln : Nat → Nat) (n_od : Nat → Nat → Int32) (n_no : Nat) (v1 : Int32) (r9 : Int32) (hf : p10_finds d n_parents n_un n_nu v1 = some r9), gXM l dC dI cI cJ cZ cK adK adV yX10_finds cX10_finds 2 (some .int) (60 + 1 * d) (3000 + 21 * d) 0 0 [.ref a_n, .int v1] ([(a_n, .inr (10, [.int n_persons, .int n_unions, .ref a_n_year, .ref a_n_parents, .ref a_n_letters, .ref a_n_union, .ref a_n_order, .int n_rows, .ref a_n_gens, .ref a_n_levels, .ref a_n_kins, .ref a_n_col])), (a_n_kins, .inl (cK, 16, .inr (.inr (.inr (.inr (qK aw)))))), (a_n_order, .inl (cZ, 16, .inr (.inr (.inr (.inr (qO aw n_no go)))))), (a_n_parents, .inl (cI, 16, .inl n_parents)), (a_n_union, .inl (cZ, 12, .inr (.inr (.inr (.inr (qU aw n_nu))))))] ++ rws cI cJ aw n_un n_nu n_ln n_od n_no kc) (fun _ : EX => ([(a_n, .inr (10, [.int n_persons, .int n_unions, .ref a_n_year, .ref a_n_parents, .ref a_n_letters, .ref a_n_union, .ref a_n_order, .int n_rows, .ref a_n_gens, .ref a_n_levels, .ref a_n_kins, .ref a_n_col])), (a_n_kins, .inl (cK, 16, .inr (.inr (.inr (.inr (qK aw)))))), (a_n_order, .inl (cZ, 16, .inr (.inr (.inr (.inr (qO aw n_no go)))))), (a_n_parents, .inl (cI, 16, .inl n_parents)), (a_n_union, .inl (cZ, 12, .inr (.inr (.inr (.inr (qU aw n_nu))))))] ++ rws cI cJ aw n_un n_nu n_ln n_od n_no kc)) (fun _ => some (.int r9)) := by
  intro d
  induction d with
  | zero => intro a_n a_n_year a_n_parents a_n_letters a_n_union a_n_order a_n_gens a_n_levels a_n_kins a_n_col aw go kc n_persons n_unions n_rows n_parents n_un n_nu n_ln n_od n_no v1 r9 hf; rw [p10_finds] at hf; cases hf
  | succ d ih =>
    intro a_n a_n_year a_n_parents a_n_letters a_n_union a_n_order a_n_gens a_n_levels a_n_kins a_n_col aw go kc n_persons n_unions n_rows n_parents n_un n_nu n_ln n_od n_no v1 r9 hf
    rw [p10_finds] at hf
    rw [show 60 + 1 * (d + 1) = (60 + 1 * d) + 1 by omega, show 3000 + 21 * (d + 1) = (3000 + 21 * d) + 21 by omega]
    exact c_X10_finds_o (p10_finds d) (60 + 1 * d) (3000 + 21 * d) (by omega) (by omega) ih a_n a_n_year a_n_parents a_n_letters a_n_union a_n_order a_n_gens a_n_levels a_n_kins a_n_col aw go kc n_persons n_unions n_rows n_parents n_un n_nu n_ln n_od n_no v1 r9 hf
theorem c_X10_finds (a_n a_n_year a_n_parents a_n_letters a_n_union a_n_order a_n_gens a_n_levels a_n_kins a_n_col : Nat) (aw : Nat → Nat) (go : Nat → Option Nat) (kc : Nat → Nat → Int64) (n_persons : Int32) (n_unions : Int32) (n_rows : Int32) (n_parents : Nat → Int32) (n_un : Nat → Nat → Int32) (n_nu : Nat) (n_ln : Nat → Nat) (n_od : Nat → Nat → Int32) (n_no : Nat) (v1 : Int32) (r9 : Int32) (hf : p10_finds 24 n_parents n_un n_nu v1 = some r9) : gXM l dC dI cI cJ cZ cK adK adV yX10_finds cX10_finds 2 (some .int) 84 3504 0 0 [.ref a_n, .int v1] ([(a_n, .inr (10, [.int n_persons, .int n_unions, .ref a_n_year, .ref a_n_parents, .ref a_n_letters, .ref a_n_union, .ref a_n_order, .int n_rows, .ref a_n_gens, .ref a_n_levels, .ref a_n_kins, .ref a_n_col])), (a_n_kins, .inl (cK, 16, .inr (.inr (.inr (.inr (qK aw)))))), (a_n_order, .inl (cZ, 16, .inr (.inr (.inr (.inr (qO aw n_no go)))))), (a_n_parents, .inl (cI, 16, .inl n_parents)), (a_n_union, .inl (cZ, 12, .inr (.inr (.inr (.inr (qU aw n_nu))))))] ++ rws cI cJ aw n_un n_nu n_ln n_od n_no kc) (fun _ : EX => ([(a_n, .inr (10, [.int n_persons, .int n_unions, .ref a_n_year, .ref a_n_parents, .ref a_n_letters, .ref a_n_union, .ref a_n_order, .int n_rows, .ref a_n_gens, .ref a_n_levels, .ref a_n_kins, .ref a_n_col])), (a_n_kins, .inl (cK, 16, .inr (.inr (.inr (.inr (qK aw)))))), (a_n_order, .inl (cZ, 16, .inr (.inr (.inr (.inr (qO aw n_no go)))))), (a_n_parents, .inl (cI, 16, .inl n_parents)), (a_n_union, .inl (cZ, 12, .inr (.inr (.inr (.inr (qU aw n_nu))))))] ++ rws cI cJ aw n_un n_nu n_ln n_od n_no kc)) (fun _ => some (.int r9)) := c_X10_finds_d 24 a_n a_n_year a_n_parents a_n_letters a_n_union a_n_order a_n_gens a_n_levels a_n_kins a_n_col aw go kc n_persons n_unions n_rows n_parents n_un n_nu n_ln n_od n_no v1 r9 hf
set_option maxHeartbeats 4000000 in
set_option maxRecDepth 100000 in
theorem c_X10_up_o (kF : (Nat → Int32) → (Nat → Nat → Int32) → Nat → Int32 → Option (Int32)) (fF lF : Nat) (hbF : 60 ≤ fF) (hbL : 3000 ≤ lF) (hF : ∀ (a_n a_n_year a_n_parents a_n_letters a_n_union a_n_order a_n_gens a_n_levels a_n_kins a_n_col : Nat) (aw : Nat → Nat) (go : Nat → Option Nat) (kc : Nat → Nat → Int64) (n_persons : Int32) (n_unions : Int32) (n_rows : Int32) (n_parents : Nat → Int32) (n_un : Nat → Nat → Int32) (n_nu : Nat) (n_ln : Nat → Nat) (n_od : Nat → Nat → Int32) (n_no : Nat) (v1 : Int32) (r9 : Int32) (_ : kF n_parents n_un n_nu v1 = some r9), gXM l dC dI cI cJ cZ cK adK adV yX10_up cX10_up 3 (some .int) fF lF 0 0 [.ref a_n, .int v1] ([(a_n, .inr (10, [.int n_persons, .int n_unions, .ref a_n_year, .ref a_n_parents, .ref a_n_letters, .ref a_n_union, .ref a_n_order, .int n_rows, .ref a_n_gens, .ref a_n_levels, .ref a_n_kins, .ref a_n_col])), (a_n_kins, .inl (cK, 16, .inr (.inr (.inr (.inr (qK aw)))))), (a_n_order, .inl (cZ, 16, .inr (.inr (.inr (.inr (qO aw n_no go)))))), (a_n_parents, .inl (cI, 16, .inl n_parents)), (a_n_union, .inl (cZ, 12, .inr (.inr (.inr (.inr (qU aw n_nu))))))] ++ rws cI cJ aw n_un n_nu n_ln n_od n_no kc) (fun _ : EX => ([(a_n, .inr (10, [.int n_persons, .int n_unions, .ref a_n_year, .ref a_n_parents, .ref a_n_letters, .ref a_n_union, .ref a_n_order, .int n_rows, .ref a_n_gens, .ref a_n_levels, .ref a_n_kins, .ref a_n_col])), (a_n_kins, .inl (cK, 16, .inr (.inr (.inr (.inr (qK aw)))))), (a_n_order, .inl (cZ, 16, .inr (.inr (.inr (.inr (qO aw n_no go)))))), (a_n_parents, .inl (cI, 16, .inl n_parents)), (a_n_union, .inl (cZ, 12, .inr (.inr (.inr (.inr (qU aw n_nu))))))] ++ rws cI cJ aw n_un n_nu n_ln n_od n_no kc)) (fun _ => some (.int r9))) (a_n a_n_year a_n_parents a_n_letters a_n_union a_n_order a_n_gens a_n_levels a_n_kins a_n_col : Nat) (aw : Nat → Nat) (go : Nat → Option Nat) (kc : Nat → Nat → Int64) (n_persons : Int32) (n_unions : Int32) (n_rows : Int32) (n_parents : Nat → Int32) (n_un : Nat → Nat → Int32) (n_nu : Nat) (n_ln : Nat → Nat) (n_od : Nat → Nat → Int32) (n_no : Nat) (v1 : Int32) (r9 : Int32) (hf : p10_up_O kF n_parents n_un n_nu v1 = some r9) : gXM l dC dI cI cJ cZ cK adK adV yX10_up cX10_up 3 (some .int) (fF + 1) (lF + 22) 0 0 [.ref a_n, .int v1] ([(a_n, .inr (10, [.int n_persons, .int n_unions, .ref a_n_year, .ref a_n_parents, .ref a_n_letters, .ref a_n_union, .ref a_n_order, .int n_rows, .ref a_n_gens, .ref a_n_levels, .ref a_n_kins, .ref a_n_col])), (a_n_kins, .inl (cK, 16, .inr (.inr (.inr (.inr (qK aw)))))), (a_n_order, .inl (cZ, 16, .inr (.inr (.inr (.inr (qO aw n_no go)))))), (a_n_parents, .inl (cI, 16, .inl n_parents)), (a_n_union, .inl (cZ, 12, .inr (.inr (.inr (.inr (qU aw n_nu))))))] ++ rws cI cJ aw n_un n_nu n_ln n_od n_no kc) (fun _ : EX => ([(a_n, .inr (10, [.int n_persons, .int n_unions, .ref a_n_year, .ref a_n_parents, .ref a_n_letters, .ref a_n_union, .ref a_n_order, .int n_rows, .ref a_n_gens, .ref a_n_levels, .ref a_n_kins, .ref a_n_col])), (a_n_kins, .inl (cK, 16, .inr (.inr (.inr (.inr (qK aw)))))), (a_n_order, .inl (cZ, 16, .inr (.inr (.inr (.inr (qO aw n_no go)))))), (a_n_parents, .inl (cI, 16, .inl n_parents)), (a_n_union, .inl (cZ, 12, .inr (.inr (.inr (.inr (qU aw n_nu))))))] ++ rws cI cJ aw n_un n_nu n_ln n_od n_no kc)) (fun _ => some (.int r9)) := by
  refine g_startX (own := RX10) (by decide +kernel) rfl (Nat.le_of_ble_eq_true rfl) ?_
  intro p e s m below meth c A ls S hr hlocks hE hG hP hD hS hA hl hin
  have hFU : FU = 1024 := rfl
  have hx := S.1
  have hb := S.2.1
  have hml := S.2.2.1
  have hown := S.2.2.2.1
  have htg : ∀ z ∈ gw, z.before ([.ref a_n, .int v1] : List Value).toArray s = true := fun w h => S.2.2.2.2 w (List.mem_cons_of_mem _ h)
  have hl : lv_has ls 3 [(0, .ref a_n), (1, .int v1)] := hl
  have hS0 := hS
  obtain ⟨H, hH⟩ : ∃ H, H = s.heap := ⟨_, rfl⟩
  obtain ⟨locs, hlc⟩ : ∃ locs : List Loc, locs = [] := ⟨_, rfl⟩
  have hS : va_S A s.heap H locs := by rw [hH, hlc]; exact hS0
  have hP : va_P (dC, dI) vwCl ([(a_n, .inr (10, [.int n_persons, .int n_unions, .ref a_n_year, .ref a_n_parents, .ref a_n_letters, .ref a_n_union, .ref a_n_order, .int n_rows, .ref a_n_gens, .ref a_n_levels, .ref a_n_kins, .ref a_n_col])), (a_n_kins, .inl (cK, 16, .inr (.inr (.inr (.inr (qK aw)))))), (a_n_order, .inl (cZ, 16, .inr (.inr (.inr (.inr (qO aw n_no go)))))), (a_n_parents, .inl (cI, 16, .inl n_parents)), (a_n_union, .inl (cZ, 12, .inr (.inr (.inr (.inr (qU aw n_nu))))))] ++ rws cI cJ aw n_un n_nu n_ln n_od n_no kc) H := by rw [hH]; exact hP
  suffices hgo : W p l e ({ frames := fF + 1, cells := 0, slots := 0, locals := lF + 22 }) s m ([.ref a_n, .int v1] : List Value).toArray below meth c H locs 0 0 (MQ below (gXQ dC dI (fun _ => some (.int r9)) A (fun _ : EX => ([(a_n, .inr (10, [.int n_persons, .int n_unions, .ref a_n_year, .ref a_n_parents, .ref a_n_letters, .ref a_n_union, .ref a_n_order, .int n_rows, .ref a_n_gens, .ref a_n_levels, .ref a_n_kins, .ref a_n_col])), (a_n_kins, .inl (cK, 16, .inr (.inr (.inr (.inr (qK aw)))))), (a_n_order, .inl (cZ, 16, .inr (.inr (.inr (.inr (qO aw n_no go)))))), (a_n_parents, .inl (cI, 16, .inl n_parents)), (a_n_union, .inl (cZ, 12, .inr (.inr (.inr (.inr (qU aw n_nu))))))] ++ rws cI cJ aw n_un n_nu n_ln n_od n_no kc))) ([.ref a_n, .int v1] : List Value).toArray s 0 0 A) (F0 m 0 ls []) by rw [hH, hlc] at hgo; exact hgo
  rw [p10_up_O] at hf
  refine lv_aload_n hx hb dX10_up_0 rfl (lv_at hl 0 rfl) ?_
  refine va_get (D := (dC, dI)) (ci := 10) (v := .ref a_n_parents) (C := RX10) (T := TX10) (N := 12) hx hb htg inX10 hown hE.1 hP 0 rfl rfl 3 (by decide) (htg _ tw548) (fun _ h9 => h9) rfl dX10_up_1 ?_
  refine lv_iload_n hx hb dX10_up_4 rfl (lv_at hl 1 rfl) ?_
  obtain ⟨h9, hf⟩ := gd_s hf
  refine va_iald hx hb hE.1 hP 3 0 rfl rfl h9 dX10_up_5 ?_
  refine lv_if_ge (tgt := 11) hx hb dX10_up_6 (by decide) (fun h9 => ?_) (fun h9 => ?_)
  · have hf := itt h9 hf
    refine lv_aload_n hx hb dX10_up_11 rfl (lv_at hl 0 rfl) ?_
    refine va_get (D := (dC, dI)) (ci := 10) (v := .ref a_n_union) (C := RX10) (T := TX10) (N := 12) hx hb htg inX10 hown hE.1 hP 0 rfl rfl 5 (by decide) (htg _ tw552) (fun _ h9 => h9) rfl dX10_up_12 ?_
    refine lv_aload_n hx hb dX10_up_15 rfl (lv_at hl 0 rfl) ?_
    refine va_get (D := (dC, dI)) (ci := 10) (v := .ref a_n_parents) (C := RX10) (T := TX10) (N := 12) hx hb htg inX10 hown hE.1 hP 0 rfl rfl 3 (by decide) (htg _ tw548) (fun _ h9 => h9) rfl dX10_up_16 ?_
    refine lv_iload_n hx hb dX10_up_19 rfl (lv_at hl 1 rfl) ?_
    obtain ⟨h9, hf⟩ := gd_s hf
    refine va_iald hx hb hE.1 hP 3 0 rfl rfl h9 dX10_up_20 ?_
    obtain ⟨t21, h9⟩ : ∃ z : Int32, z = (n_parents v1.toNatClampNeg) := ⟨_, rfl⟩
    rw [← h9]
    have hf := lb_e h9 hf
    obtain ⟨h8, hf⟩ := gd_s hf
    obtain ⟨hq21, hf⟩ := gd_s hf
    refine g_aldR (b := (aw (3 * t21.toNatClampNeg))) hx hb hE hP 4 2 rfl rfl h8 (if_pos (vin_lt hq21)) dX10_up_21 ?_
    refine lv_astore_n (lv' := [(2, .ref (aw (3 * t21.toNatClampNeg))), (0, .ref a_n), (1, .int v1)]) hx hb dX10_up_22 rfl hl (by decide) rfl (fun ls hl => ?_)
    refine lv_iconst (v := 1) hx hb dX10_up_23 (by decide) ?_
    refine lv_aload_n hx hb dX10_up_24 rfl (lv_at hl 0 rfl) ?_
    refine lv_iconst (v := 0) hx hb dX10_up_25 (by decide) ?_
    obtain ⟨h9, hf⟩ := gd_s hf
    refine va_iald hx hb hE.1 hP _ 0 (rU_get (X := [(a_n, .inr (10, [.int n_persons, .int n_unions, .ref a_n_year, .ref a_n_parents, .ref a_n_letters, .ref a_n_union, .ref a_n_order, .int n_rows, .ref a_n_gens, .ref a_n_levels, .ref a_n_kins, .ref a_n_col])), (a_n_kins, .inl (cK, 16, .inr (.inr (.inr (.inr (qK aw)))))), (a_n_order, .inl (cZ, 16, .inr (.inr (.inr (.inr (qO aw n_no go)))))), (a_n_parents, .inl (cI, 16, .inl n_parents)), (a_n_union, .inl (cZ, 12, .inr (.inr (.inr (.inr (qU aw n_nu))))))]) (vin_lt hq21)) rfl h9 dX10_up_26 ?_
    refine lv_ishl hx hb dX10_up_27 ?_
    refine lv_iconst (v := 1) hx hb dX10_up_28 (by decide) ?_
    refine lv_aload_n hx hb dX10_up_29 rfl (lv_at hl 0 rfl) ?_
    refine lv_iconst (v := 1) hx hb dX10_up_30 (by decide) ?_
    obtain ⟨h9, hf⟩ := gd_s hf
    refine va_iald hx hb hE.1 hP _ 0 (rU_get (X := [(a_n, .inr (10, [.int n_persons, .int n_unions, .ref a_n_year, .ref a_n_parents, .ref a_n_letters, .ref a_n_union, .ref a_n_order, .int n_rows, .ref a_n_gens, .ref a_n_levels, .ref a_n_kins, .ref a_n_col])), (a_n_kins, .inl (cK, 16, .inr (.inr (.inr (.inr (qK aw)))))), (a_n_order, .inl (cZ, 16, .inr (.inr (.inr (.inr (qO aw n_no go)))))), (a_n_parents, .inl (cI, 16, .inl n_parents)), (a_n_union, .inl (cZ, 12, .inr (.inr (.inr (.inr (qU aw n_nu))))))]) (vin_lt hq21)) rfl h9 dX10_up_31 ?_
    refine lv_ishl hx hb dX10_up_32 ?_
    refine lv_ior hx hb dX10_up_33 ?_
    refine lv_aload_n hx hb dX10_up_34 rfl (lv_at hl 1 rfl) ?_
    refine lv_aload_n hx hb dX10_up_35 rfl (lv_at hl 0 rfl) ?_
    refine lv_iconst (v := 0) hx hb dX10_up_36 (by decide) ?_
    obtain ⟨h9, hf⟩ := gd_s hf
    refine va_iald hx hb hE.1 hP _ 0 (rU_get (X := [(a_n, .inr (10, [.int n_persons, .int n_unions, .ref a_n_year, .ref a_n_parents, .ref a_n_letters, .ref a_n_union, .ref a_n_order, .int n_rows, .ref a_n_gens, .ref a_n_levels, .ref a_n_kins, .ref a_n_col])), (a_n_kins, .inl (cK, 16, .inr (.inr (.inr (.inr (qK aw)))))), (a_n_order, .inl (cZ, 16, .inr (.inr (.inr (.inr (qO aw n_no go)))))), (a_n_parents, .inl (cI, 16, .inl n_parents)), (a_n_union, .inl (cZ, 12, .inr (.inr (.inr (.inr (qU aw n_nu))))))]) (vin_lt hq21)) rfl h9 dX10_up_37 ?_
    obtain ⟨r38, h9, hf⟩ := ob_s hf
    refine gxVP (index := 69) S htg hE hG (hF a_n a_n_year a_n_parents a_n_letters a_n_union a_n_order a_n_gens a_n_levels a_n_kins a_n_col aw go kc n_persons n_unions n_rows n_parents n_un n_nu n_ln n_od n_no (n_un t21.toNatClampNeg (0 : Int32).toNatClampNeg) r38 h9) mX10_up tw601 ⟨(show fF + 1 ≤ fF + 1 by omega), (show 8 + (3 + 11) + (lF) ≤ lF + 22 by omega)⟩ hP hD hS hA ⟨Nat.zero_le _, Nat.zero_le _⟩ 0 10 rfl rfl rfl (X := [(a_n, .inr (10, [.int n_persons, .int n_unions, .ref a_n_year, .ref a_n_parents, .ref a_n_letters, .ref a_n_union, .ref a_n_order, .int n_rows, .ref a_n_gens, .ref a_n_levels, .ref a_n_kins, .ref a_n_col])), (a_n_kins, .inl (cK, 16, .inr (.inr (.inr (.inr (qK aw)))))), (a_n_order, .inl (cZ, 16, .inr (.inr (.inr (.inr (qO aw n_no go)))))), (a_n_parents, .inl (cI, 16, .inl n_parents)), (a_n_union, .inl (cZ, 12, .inr (.inr (.inr (.inr (qU aw n_nu))))))]) (cx := [(a_n, .inr (10, [.int n_persons, .int n_unions, .ref a_n_year, .ref a_n_parents, .ref a_n_letters, .ref a_n_union, .ref a_n_order, .int n_rows, .ref a_n_gens, .ref a_n_levels, .ref a_n_kins, .ref a_n_col])), (a_n_kins, .inl (cK, 16, .inr (.inr (.inr (.inr (qK aw)))))), (a_n_order, .inl (cZ, 16, .inr (.inr (.inr (.inr (qO aw n_no go)))))), (a_n_parents, .inl (cI, 16, .inl n_parents)), (a_n_union, .inl (cZ, 12, .inr (.inr (.inr (.inr (qU aw n_nu))))))]) (pl := rws cI cJ aw n_un n_nu n_ln n_od n_no kc) (wr := []) [0, 1, 2, 3, 4] [] rfl rfl rfl rfl (by decide) (As := [.int (n_un t21.toNatClampNeg (0 : Int32).toNatClampNeg)]) (rest := [.int (((1 : Int32) <<< ((n_un t21.toNatClampNeg (0 : Int32).toNatClampNeg) &&& 31)) ||| ((1 : Int32) <<< ((n_un t21.toNatClampNeg (1 : Int32).toNatClampNeg) &&& 31)))]) rfl hl.1 rfl (Nat.le_of_ble_eq_true rfl) dX10_up_38 (fun H locs xx38 hP hD hS => ?_)
    refine W.eq (g2 := F0 m 41 ls [.int r38, .int (((1 : Int32) <<< ((n_un t21.toNatClampNeg (0 : Int32).toNatClampNeg) &&& 31)) ||| ((1 : Int32) <<< ((n_un t21.toNatClampNeg (1 : Int32).toNatClampNeg) &&& 31)))]) rfl ?_
    have hP : va_P (dC, dI) vwCl ([(a_n, .inr (10, [.int n_persons, .int n_unions, .ref a_n_year, .ref a_n_parents, .ref a_n_letters, .ref a_n_union, .ref a_n_order, .int n_rows, .ref a_n_gens, .ref a_n_levels, .ref a_n_kins, .ref a_n_col])), (a_n_kins, .inl (cK, 16, .inr (.inr (.inr (.inr (qK aw)))))), (a_n_order, .inl (cZ, 16, .inr (.inr (.inr (.inr (qO aw n_no go)))))), (a_n_parents, .inl (cI, 16, .inl n_parents)), (a_n_union, .inl (cZ, 12, .inr (.inr (.inr (.inr (qU aw n_nu))))))] ++ rws cI cJ aw n_un n_nu n_ln n_od n_no kc) H := hP
    have hD : va_D A ([(a_n, .inr (10, [.int n_persons, .int n_unions, .ref a_n_year, .ref a_n_parents, .ref a_n_letters, .ref a_n_union, .ref a_n_order, .int n_rows, .ref a_n_gens, .ref a_n_levels, .ref a_n_kins, .ref a_n_col])), (a_n_kins, .inl (cK, 16, .inr (.inr (.inr (.inr (qK aw)))))), (a_n_order, .inl (cZ, 16, .inr (.inr (.inr (.inr (qO aw n_no go)))))), (a_n_parents, .inl (cI, 16, .inl n_parents)), (a_n_union, .inl (cZ, 12, .inr (.inr (.inr (.inr (qU aw n_nu))))))] ++ rws cI cJ aw n_un n_nu n_ln n_od n_no kc) := hD
    refine lv_ior hx hb dX10_up_41 ?_
    refine lv_aload_n hx hb dX10_up_42 rfl (lv_at hl 1 rfl) ?_
    refine lv_aload_n hx hb dX10_up_43 rfl (lv_at hl 0 rfl) ?_
    refine lv_iconst (v := 1) hx hb dX10_up_44 (by decide) ?_
    obtain ⟨h9, hf⟩ := gd_s hf
    refine va_iald hx hb hE.1 hP _ 0 (rU_get (X := [(a_n, .inr (10, [.int n_persons, .int n_unions, .ref a_n_year, .ref a_n_parents, .ref a_n_letters, .ref a_n_union, .ref a_n_order, .int n_rows, .ref a_n_gens, .ref a_n_levels, .ref a_n_kins, .ref a_n_col])), (a_n_kins, .inl (cK, 16, .inr (.inr (.inr (.inr (qK aw)))))), (a_n_order, .inl (cZ, 16, .inr (.inr (.inr (.inr (qO aw n_no go)))))), (a_n_parents, .inl (cI, 16, .inl n_parents)), (a_n_union, .inl (cZ, 12, .inr (.inr (.inr (.inr (qU aw n_nu))))))]) (vin_lt hq21)) rfl h9 dX10_up_45 ?_
    obtain ⟨r46, h9, hf⟩ := ob_s hf
    refine gxVP (index := 69) S htg hE hG (hF a_n a_n_year a_n_parents a_n_letters a_n_union a_n_order a_n_gens a_n_levels a_n_kins a_n_col aw go kc n_persons n_unions n_rows n_parents n_un n_nu n_ln n_od n_no (n_un t21.toNatClampNeg (1 : Int32).toNatClampNeg) r46 h9) mX10_up tw601 ⟨(show fF + 1 ≤ fF + 1 by omega), (show 8 + (3 + 11) + (lF) ≤ lF + 22 by omega)⟩ hP hD hS hA ⟨Nat.zero_le _, Nat.zero_le _⟩ 0 10 rfl rfl rfl (X := [(a_n, .inr (10, [.int n_persons, .int n_unions, .ref a_n_year, .ref a_n_parents, .ref a_n_letters, .ref a_n_union, .ref a_n_order, .int n_rows, .ref a_n_gens, .ref a_n_levels, .ref a_n_kins, .ref a_n_col])), (a_n_kins, .inl (cK, 16, .inr (.inr (.inr (.inr (qK aw)))))), (a_n_order, .inl (cZ, 16, .inr (.inr (.inr (.inr (qO aw n_no go)))))), (a_n_parents, .inl (cI, 16, .inl n_parents)), (a_n_union, .inl (cZ, 12, .inr (.inr (.inr (.inr (qU aw n_nu))))))]) (cx := [(a_n, .inr (10, [.int n_persons, .int n_unions, .ref a_n_year, .ref a_n_parents, .ref a_n_letters, .ref a_n_union, .ref a_n_order, .int n_rows, .ref a_n_gens, .ref a_n_levels, .ref a_n_kins, .ref a_n_col])), (a_n_kins, .inl (cK, 16, .inr (.inr (.inr (.inr (qK aw)))))), (a_n_order, .inl (cZ, 16, .inr (.inr (.inr (.inr (qO aw n_no go)))))), (a_n_parents, .inl (cI, 16, .inl n_parents)), (a_n_union, .inl (cZ, 12, .inr (.inr (.inr (.inr (qU aw n_nu))))))]) (pl := rws cI cJ aw n_un n_nu n_ln n_od n_no kc) (wr := []) [0, 1, 2, 3, 4] [] rfl rfl rfl rfl (by decide) (As := [.int (n_un t21.toNatClampNeg (1 : Int32).toNatClampNeg)]) (rest := [.int ((((1 : Int32) <<< ((n_un t21.toNatClampNeg (0 : Int32).toNatClampNeg) &&& 31)) ||| ((1 : Int32) <<< ((n_un t21.toNatClampNeg (1 : Int32).toNatClampNeg) &&& 31))) ||| r38)]) rfl hl.1 rfl (Nat.le_of_ble_eq_true rfl) dX10_up_46 (fun H locs xx46 hP hD hS => ?_)
    refine W.eq (g2 := F0 m 49 ls [.int r46, .int ((((1 : Int32) <<< ((n_un t21.toNatClampNeg (0 : Int32).toNatClampNeg) &&& 31)) ||| ((1 : Int32) <<< ((n_un t21.toNatClampNeg (1 : Int32).toNatClampNeg) &&& 31))) ||| r38)]) rfl ?_
    have hP : va_P (dC, dI) vwCl ([(a_n, .inr (10, [.int n_persons, .int n_unions, .ref a_n_year, .ref a_n_parents, .ref a_n_letters, .ref a_n_union, .ref a_n_order, .int n_rows, .ref a_n_gens, .ref a_n_levels, .ref a_n_kins, .ref a_n_col])), (a_n_kins, .inl (cK, 16, .inr (.inr (.inr (.inr (qK aw)))))), (a_n_order, .inl (cZ, 16, .inr (.inr (.inr (.inr (qO aw n_no go)))))), (a_n_parents, .inl (cI, 16, .inl n_parents)), (a_n_union, .inl (cZ, 12, .inr (.inr (.inr (.inr (qU aw n_nu))))))] ++ rws cI cJ aw n_un n_nu n_ln n_od n_no kc) H := hP
    have hD : va_D A ([(a_n, .inr (10, [.int n_persons, .int n_unions, .ref a_n_year, .ref a_n_parents, .ref a_n_letters, .ref a_n_union, .ref a_n_order, .int n_rows, .ref a_n_gens, .ref a_n_levels, .ref a_n_kins, .ref a_n_col])), (a_n_kins, .inl (cK, 16, .inr (.inr (.inr (.inr (qK aw)))))), (a_n_order, .inl (cZ, 16, .inr (.inr (.inr (.inr (qO aw n_no go)))))), (a_n_parents, .inl (cI, 16, .inl n_parents)), (a_n_union, .inl (cZ, 12, .inr (.inr (.inr (.inr (qU aw n_nu))))))] ++ rws cI cJ aw n_un n_nu n_ln n_od n_no kc) := hD
    refine lv_ior hx hb dX10_up_49 ?_
    cases hf
    exact g_iretX S hr hlocks (adV, fun _ => none, fun _ _ => 0) hP hD hS (Nat.le_refl _) (Nat.le_refl _) dX10_up_50
  · have hf := itf h9 hf
    refine lv_iconst (v := 0) hx hb dX10_up_9 (by decide) ?_
    cases hf
    exact g_iretX S hr hlocks (adV, fun _ => none, fun _ _ => 0) hP hD hS (Nat.le_refl _) (Nat.le_refl _) dX10_up_10
theorem c_X10_up_d : ∀ (d : Nat) (a_n a_n_year a_n_parents a_n_letters a_n_union a_n_order a_n_gens a_n_levels a_n_kins a_n_col : Nat) (aw : Nat → Nat) (go : Nat → Option Nat) (kc : Nat → Nat → Int64) (n_persons : Int32) (n_unions : Int32) (n_rows : Int32) (n_parents : Nat → Int32) (n_un : Nat → Nat → Int32) (n_nu : Nat) (n_ln : Nat → Nat) (n_od : Nat → Nat → Int32) (n_no : Nat) (v1 : Int32) (r9 : Int32) (hf : p10_up d n_parents n_un n_nu v1 = some r9), gXM l dC dI cI cJ cZ cK adK adV yX10_up cX10_up 3 (some .int) (60 + 1 * d) (3000 + 22 * d) 0 0 [.ref a_n, .int v1] ([(a_n, .inr (10, [.int n_persons, .int n_unions, .ref a_n_year, .ref a_n_parents, .ref a_n_letters, .ref a_n_union, .ref a_n_order, .int n_rows, .ref a_n_gens, .ref a_n_levels, .ref a_n_kins, .ref a_n_col])), (a_n_kins, .inl (cK, 16, .inr (.inr (.inr (.inr (qK aw)))))), (a_n_order, .inl (cZ, 16, .inr (.inr (.inr (.inr (qO aw n_no go)))))), (a_n_parents, .inl (cI, 16, .inl n_parents)), (a_n_union, .inl (cZ, 12, .inr (.inr (.inr (.inr (qU aw n_nu))))))] ++ rws cI cJ aw n_un n_nu n_ln n_od n_no kc) (fun _ : EX => ([(a_n, .inr (10, [.int n_persons, .int n_unions, .ref a_n_year, .ref a_n_parents, .ref a_n_letters, .ref a_n_union, .ref a_n_order, .int n_rows, .ref a_n_gens, .ref a_n_levels, .ref a_n_kins, .ref a_n_col])), (a_n_kins, .inl (cK, 16, .inr (.inr (.inr (.inr (qK aw)))))), (a_n_order, .inl (cZ, 16, .inr (.inr (.inr (.inr (qO aw n_no go)))))), (a_n_parents, .inl (cI, 16, .inl n_parents)), (a_n_union, .inl (cZ, 12, .inr (.inr (.inr (.inr (qU aw n_nu))))))] ++ rws cI cJ aw n_un n_nu n_ln n_od n_no kc)) (fun _ => some (.int r9)) := by
  intro d
  induction d with
  | zero => intro a_n a_n_year a_n_parents a_n_letters a_n_union a_n_order a_n_gens a_n_levels a_n_kins a_n_col aw go kc n_persons n_unions n_rows n_parents n_un n_nu n_ln n_od n_no v1 r9 hf; rw [p10_up] at hf; cases hf
  | succ d ih =>
    intro a_n a_n_year a_n_parents a_n_letters a_n_union a_n_order a_n_gens a_n_levels a_n_kins a_n_col aw go kc n_persons n_unions n_rows n_parents n_un n_nu n_ln n_od n_no v1 r9 hf
    rw [p10_up] at hf
    rw [show 60 + 1 * (d + 1) = (60 + 1 * d) + 1 by omega, show 3000 + 22 * (d + 1) = (3000 + 22 * d) + 22 by omega]
    exact c_X10_up_o (p10_up d) (60 + 1 * d) (3000 + 22 * d) (by omega) (by omega) ih a_n a_n_year a_n_parents a_n_letters a_n_union a_n_order a_n_gens a_n_levels a_n_kins a_n_col aw go kc n_persons n_unions n_rows n_parents n_un n_nu n_ln n_od n_no v1 r9 hf
theorem c_X10_up (a_n a_n_year a_n_parents a_n_letters a_n_union a_n_order a_n_gens a_n_levels a_n_kins a_n_col : Nat) (aw : Nat → Nat) (go : Nat → Option Nat) (kc : Nat → Nat → Int64) (n_persons : Int32) (n_unions : Int32) (n_rows : Int32) (n_parents : Nat → Int32) (n_un : Nat → Nat → Int32) (n_nu : Nat) (n_ln : Nat → Nat) (n_od : Nat → Nat → Int32) (n_no : Nat) (v1 : Int32) (r9 : Int32) (hf : p10_up 24 n_parents n_un n_nu v1 = some r9) : gXM l dC dI cI cJ cZ cK adK adV yX10_up cX10_up 3 (some .int) 84 3528 0 0 [.ref a_n, .int v1] ([(a_n, .inr (10, [.int n_persons, .int n_unions, .ref a_n_year, .ref a_n_parents, .ref a_n_letters, .ref a_n_union, .ref a_n_order, .int n_rows, .ref a_n_gens, .ref a_n_levels, .ref a_n_kins, .ref a_n_col])), (a_n_kins, .inl (cK, 16, .inr (.inr (.inr (.inr (qK aw)))))), (a_n_order, .inl (cZ, 16, .inr (.inr (.inr (.inr (qO aw n_no go)))))), (a_n_parents, .inl (cI, 16, .inl n_parents)), (a_n_union, .inl (cZ, 12, .inr (.inr (.inr (.inr (qU aw n_nu))))))] ++ rws cI cJ aw n_un n_nu n_ln n_od n_no kc) (fun _ : EX => ([(a_n, .inr (10, [.int n_persons, .int n_unions, .ref a_n_year, .ref a_n_parents, .ref a_n_letters, .ref a_n_union, .ref a_n_order, .int n_rows, .ref a_n_gens, .ref a_n_levels, .ref a_n_kins, .ref a_n_col])), (a_n_kins, .inl (cK, 16, .inr (.inr (.inr (.inr (qK aw)))))), (a_n_order, .inl (cZ, 16, .inr (.inr (.inr (.inr (qO aw n_no go)))))), (a_n_parents, .inl (cI, 16, .inl n_parents)), (a_n_union, .inl (cZ, 12, .inr (.inr (.inr (.inr (qU aw n_nu))))))] ++ rws cI cJ aw n_un n_nu n_ln n_od n_no kc)) (fun _ => some (.int r9)) := c_X10_up_d 24 a_n a_n_year a_n_parents a_n_letters a_n_union a_n_order a_n_gens a_n_levels a_n_kins a_n_col aw go kc n_persons n_unions n_rows n_parents n_un n_nu n_ln n_od n_no v1 r9 hf
set_option maxHeartbeats 4000000 in
set_option maxRecDepth 100000 in
theorem c_X10_box (a_n a_n_year a_n_parents a_n_letters a_n_union a_n_order a_n_gens a_n_levels a_n_kins a_n_col : Nat) (aw : Nat → Nat) (go : Nat → Option Nat) (kc : Nat → Nat → Int64) (n_persons : Int32) (n_unions : Int32) (n_rows : Int32) (n_gens : Nat → Int32) (n_levels : Nat → Int32) (n_un : Nat → Nat → Int32) (n_nu : Nat) (n_ln : Nat → Nat) (n_od : Nat → Nat → Int32) (n_no : Nat) (v1 : Int32) (v2 : Int32) (r9 : Int32) (hf : p10_box n_gens n_levels n_un n_nu v1 v2 = some r9) : gXM l dC dI cI cJ cZ cK adK adV yX10_box cX10_box 4 (some .int) (1) (21) 0 0 [.ref a_n, .int v1, .int v2] ([(a_n, .inr (10, [.int n_persons, .int n_unions, .ref a_n_year, .ref a_n_parents, .ref a_n_letters, .ref a_n_union, .ref a_n_order, .int n_rows, .ref a_n_gens, .ref a_n_levels, .ref a_n_kins, .ref a_n_col])), (a_n_gens, .inl (cI, 16, .inl n_gens)), (a_n_kins, .inl (cK, 16, .inr (.inr (.inr (.inr (qK aw)))))), (a_n_levels, .inl (cI, 12, .inl n_levels)), (a_n_order, .inl (cZ, 16, .inr (.inr (.inr (.inr (qO aw n_no go)))))), (a_n_union, .inl (cZ, 12, .inr (.inr (.inr (.inr (qU aw n_nu))))))] ++ rws cI cJ aw n_un n_nu n_ln n_od n_no kc) (fun _ : EX => ([(a_n, .inr (10, [.int n_persons, .int n_unions, .ref a_n_year, .ref a_n_parents, .ref a_n_letters, .ref a_n_union, .ref a_n_order, .int n_rows, .ref a_n_gens, .ref a_n_levels, .ref a_n_kins, .ref a_n_col])), (a_n_gens, .inl (cI, 16, .inl n_gens)), (a_n_kins, .inl (cK, 16, .inr (.inr (.inr (.inr (qK aw)))))), (a_n_levels, .inl (cI, 12, .inl n_levels)), (a_n_order, .inl (cZ, 16, .inr (.inr (.inr (.inr (qO aw n_no go)))))), (a_n_union, .inl (cZ, 12, .inr (.inr (.inr (.inr (qU aw n_nu))))))] ++ rws cI cJ aw n_un n_nu n_ln n_od n_no kc)) (fun _ => some (.int r9)) := by
  refine g_startX (own := RX10) (by decide +kernel) rfl (Nat.le_of_ble_eq_true rfl) ?_
  intro p e s m below meth c A ls S hr hlocks hE hG hP hD hS hA hl hin
  have hFU : FU = 1024 := rfl
  have hx := S.1
  have hb := S.2.1
  have hml := S.2.2.1
  have hown := S.2.2.2.1
  have htg : ∀ z ∈ gw, z.before ([.ref a_n, .int v1, .int v2] : List Value).toArray s = true := fun w h => S.2.2.2.2 w (List.mem_cons_of_mem _ h)
  have hl : lv_has ls 4 [(0, .ref a_n), (1, .int v1), (2, .int v2)] := hl
  have hS0 := hS
  obtain ⟨H, hH⟩ : ∃ H, H = s.heap := ⟨_, rfl⟩
  obtain ⟨locs, hlc⟩ : ∃ locs : List Loc, locs = [] := ⟨_, rfl⟩
  have hS : va_S A s.heap H locs := by rw [hH, hlc]; exact hS0
  have hP : va_P (dC, dI) vwCl ([(a_n, .inr (10, [.int n_persons, .int n_unions, .ref a_n_year, .ref a_n_parents, .ref a_n_letters, .ref a_n_union, .ref a_n_order, .int n_rows, .ref a_n_gens, .ref a_n_levels, .ref a_n_kins, .ref a_n_col])), (a_n_gens, .inl (cI, 16, .inl n_gens)), (a_n_kins, .inl (cK, 16, .inr (.inr (.inr (.inr (qK aw)))))), (a_n_levels, .inl (cI, 12, .inl n_levels)), (a_n_order, .inl (cZ, 16, .inr (.inr (.inr (.inr (qO aw n_no go)))))), (a_n_union, .inl (cZ, 12, .inr (.inr (.inr (.inr (qU aw n_nu))))))] ++ rws cI cJ aw n_un n_nu n_ln n_od n_no kc) H := by rw [hH]; exact hP
  suffices hgo : W p l e ({ frames := 1, cells := 0, slots := 0, locals := 21 }) s m ([.ref a_n, .int v1, .int v2] : List Value).toArray below meth c H locs 0 0 (MQ below (gXQ dC dI (fun _ => some (.int r9)) A (fun _ : EX => ([(a_n, .inr (10, [.int n_persons, .int n_unions, .ref a_n_year, .ref a_n_parents, .ref a_n_letters, .ref a_n_union, .ref a_n_order, .int n_rows, .ref a_n_gens, .ref a_n_levels, .ref a_n_kins, .ref a_n_col])), (a_n_gens, .inl (cI, 16, .inl n_gens)), (a_n_kins, .inl (cK, 16, .inr (.inr (.inr (.inr (qK aw)))))), (a_n_levels, .inl (cI, 12, .inl n_levels)), (a_n_order, .inl (cZ, 16, .inr (.inr (.inr (.inr (qO aw n_no go)))))), (a_n_union, .inl (cZ, 12, .inr (.inr (.inr (.inr (qU aw n_nu))))))] ++ rws cI cJ aw n_un n_nu n_ln n_od n_no kc))) ([.ref a_n, .int v1, .int v2] : List Value).toArray s 0 0 A) (F0 m 0 ls []) by rw [hH, hlc] at hgo; exact hgo
  rw [p10_box] at hf
  refine lv_aload_n hx hb dX10_box_0 rfl (lv_at hl 0 rfl) ?_
  refine va_get (D := (dC, dI)) (ci := 10) (v := .ref a_n_union) (C := RX10) (T := TX10) (N := 12) hx hb htg inX10 hown hE.1 hP 0 rfl rfl 5 (by decide) (htg _ tw552) (fun _ h9 => h9) rfl dX10_box_1 ?_
  refine lv_iload_n hx hb dX10_box_4 rfl (lv_at hl 1 rfl) ?_
  obtain ⟨h8, hf⟩ := gd_s hf
  obtain ⟨hq5, hf⟩ := gd_s hf
  refine g_aldR (b := (aw (3 * v1.toNatClampNeg))) hx hb hE hP 5 2 rfl rfl h8 (if_pos (vin_lt hq5)) dX10_box_5 ?_
  refine lv_iload_n hx hb dX10_box_6 rfl (lv_at hl 2 rfl) ?_
  obtain ⟨h9, hf⟩ := gd_s hf
  refine va_iald hx hb hE.1 hP _ 0 (rU_get (X := [(a_n, .inr (10, [.int n_persons, .int n_unions, .ref a_n_year, .ref a_n_parents, .ref a_n_letters, .ref a_n_union, .ref a_n_order, .int n_rows, .ref a_n_gens, .ref a_n_levels, .ref a_n_kins, .ref a_n_col])), (a_n_gens, .inl (cI, 16, .inl n_gens)), (a_n_kins, .inl (cK, 16, .inr (.inr (.inr (.inr (qK aw)))))), (a_n_levels, .inl (cI, 12, .inl n_levels)), (a_n_order, .inl (cZ, 16, .inr (.inr (.inr (.inr (qO aw n_no go)))))), (a_n_union, .inl (cZ, 12, .inr (.inr (.inr (.inr (qU aw n_nu))))))]) (vin_lt hq5)) rfl h9 dX10_box_7 ?_
  refine lv_topi (fun t8 h9 => ?_)
  have hf := lb_e h9 hf
  refine lv_istore_n (lv' := [(3, .int t8), (0, .ref a_n), (1, .int v1), (2, .int v2)]) hx hb dX10_box_8 rfl hl (by decide) rfl (fun ls hl => ?_)
  refine lv_aload_n hx hb dX10_box_9 rfl (lv_at hl 1 rfl) ?_
  refine lv_iload_n hx hb dX10_box_10 rfl (lv_at hl 0 rfl) ?_
  obtain ⟨r11, h9, hf⟩ := ob_s hf
  refine gxVQ (index := 75) S htg hE hG (c_X10_gen a_n a_n_year a_n_parents a_n_letters a_n_union a_n_order a_n_gens a_n_levels a_n_kins a_n_col n_persons n_unions n_rows n_gens t8 r11 h9) mX10_gen tw612 ⟨Nat.le_of_ble_eq_true rfl, Nat.le_of_ble_eq_true rfl⟩ hP hD hS hA ⟨Nat.zero_le _, Nat.zero_le _⟩ 0 10 rfl rfl rfl (X := [(a_n, .inr (10, [.int n_persons, .int n_unions, .ref a_n_year, .ref a_n_parents, .ref a_n_letters, .ref a_n_union, .ref a_n_order, .int n_rows, .ref a_n_gens, .ref a_n_levels, .ref a_n_kins, .ref a_n_col])), (a_n_gens, .inl (cI, 16, .inl n_gens)), (a_n_kins, .inl (cK, 16, .inr (.inr (.inr (.inr (qK aw)))))), (a_n_levels, .inl (cI, 12, .inl n_levels)), (a_n_order, .inl (cZ, 16, .inr (.inr (.inr (.inr (qO aw n_no go)))))), (a_n_union, .inl (cZ, 12, .inr (.inr (.inr (.inr (qU aw n_nu))))))]) (cx := [(a_n, .inr (10, [.int n_persons, .int n_unions, .ref a_n_year, .ref a_n_parents, .ref a_n_letters, .ref a_n_union, .ref a_n_order, .int n_rows, .ref a_n_gens, .ref a_n_levels, .ref a_n_kins, .ref a_n_col])), (a_n_gens, .inl (cI, 16, .inl n_gens))]) (pl := rws cI cJ aw n_un n_nu n_ln n_od n_no kc) (wr := [(a_n_kins, .inl (cK, 16, .inr (.inr (.inr (.inr (qK aw)))))), (a_n_levels, .inl (cI, 12, .inl n_levels)), (a_n_order, .inl (cZ, 16, .inr (.inr (.inr (.inr (qO aw n_no go)))))), (a_n_union, .inl (cZ, 12, .inr (.inr (.inr (.inr (qU aw n_nu))))))]) [0, 1] [2, 3, 4, 5] rfl rfl rfl rfl (by decide) (As := [.int t8]) (rest := []) rfl hl.1 rfl (Nat.le_of_ble_eq_true rfl) dX10_box_11 (fun H locs xx11 hP hD hS => ?_)
  refine W.eq (g2 := F0 m 14 ls [.int r11]) rfl ?_
  have hP : va_P (dC, dI) vwCl ([(a_n_kins, .inl (cK, 16, .inr (.inr (.inr (.inr (qK aw)))))), (a_n_levels, .inl (cI, 12, .inl n_levels)), (a_n_order, .inl (cZ, 16, .inr (.inr (.inr (.inr (qO aw n_no go)))))), (a_n_union, .inl (cZ, 12, .inr (.inr (.inr (.inr (qU aw n_nu)))))), (a_n, .inr (10, [.int n_persons, .int n_unions, .ref a_n_year, .ref a_n_parents, .ref a_n_letters, .ref a_n_union, .ref a_n_order, .int n_rows, .ref a_n_gens, .ref a_n_levels, .ref a_n_kins, .ref a_n_col])), (a_n_gens, .inl (cI, 16, .inl n_gens))] ++ rws cI cJ aw n_un n_nu n_ln n_od n_no kc) H := hP
  have hD : va_D A ([(a_n_kins, .inl (cK, 16, .inr (.inr (.inr (.inr (qK aw)))))), (a_n_levels, .inl (cI, 12, .inl n_levels)), (a_n_order, .inl (cZ, 16, .inr (.inr (.inr (.inr (qO aw n_no go)))))), (a_n_union, .inl (cZ, 12, .inr (.inr (.inr (.inr (qU aw n_nu)))))), (a_n, .inr (10, [.int n_persons, .int n_unions, .ref a_n_year, .ref a_n_parents, .ref a_n_letters, .ref a_n_union, .ref a_n_order, .int n_rows, .ref a_n_gens, .ref a_n_levels, .ref a_n_kins, .ref a_n_col])), (a_n_gens, .inl (cI, 16, .inl n_gens))] ++ rws cI cJ aw n_un n_nu n_ln n_od n_no kc) := hD
  refine lv_aload_n hx hb dX10_box_14 rfl (lv_at hl 1 rfl) ?_
  refine lv_iload_n hx hb dX10_box_15 rfl (lv_at hl 2 rfl) ?_
  obtain ⟨r16, h9, hf⟩ := ob_s hf
  refine gxVQ (index := 72) S htg hE hG (c_X10_level a_n a_n_year a_n_parents a_n_letters a_n_union a_n_order a_n_gens a_n_levels a_n_kins a_n_col n_persons n_unions n_rows n_levels v1 r16 h9) mX10_level tw616 ⟨Nat.le_of_ble_eq_true rfl, Nat.le_of_ble_eq_true rfl⟩ hP hD hS hA ⟨Nat.zero_le _, Nat.zero_le _⟩ 4 10 rfl rfl rfl (X := [(a_n_kins, .inl (cK, 16, .inr (.inr (.inr (.inr (qK aw)))))), (a_n_levels, .inl (cI, 12, .inl n_levels)), (a_n_order, .inl (cZ, 16, .inr (.inr (.inr (.inr (qO aw n_no go)))))), (a_n_union, .inl (cZ, 12, .inr (.inr (.inr (.inr (qU aw n_nu)))))), (a_n, .inr (10, [.int n_persons, .int n_unions, .ref a_n_year, .ref a_n_parents, .ref a_n_letters, .ref a_n_union, .ref a_n_order, .int n_rows, .ref a_n_gens, .ref a_n_levels, .ref a_n_kins, .ref a_n_col])), (a_n_gens, .inl (cI, 16, .inl n_gens))]) (cx := [(a_n, .inr (10, [.int n_persons, .int n_unions, .ref a_n_year, .ref a_n_parents, .ref a_n_letters, .ref a_n_union, .ref a_n_order, .int n_rows, .ref a_n_gens, .ref a_n_levels, .ref a_n_kins, .ref a_n_col])), (a_n_levels, .inl (cI, 12, .inl n_levels))]) (pl := rws cI cJ aw n_un n_nu n_ln n_od n_no kc) (wr := [(a_n_kins, .inl (cK, 16, .inr (.inr (.inr (.inr (qK aw)))))), (a_n_order, .inl (cZ, 16, .inr (.inr (.inr (.inr (qO aw n_no go)))))), (a_n_union, .inl (cZ, 12, .inr (.inr (.inr (.inr (qU aw n_nu)))))), (a_n_gens, .inl (cI, 16, .inl n_gens))]) [4, 1] [0, 2, 3, 5] rfl rfl rfl rfl (by decide) (As := [.int v1]) (rest := [.int r11]) rfl hl.1 rfl (Nat.le_of_ble_eq_true rfl) dX10_box_16 (fun H locs xx16 hP hD hS => ?_)
  refine W.eq (g2 := F0 m 19 ls [.int r16, .int r11]) rfl ?_
  have hP : va_P (dC, dI) vwCl ([(a_n_kins, .inl (cK, 16, .inr (.inr (.inr (.inr (qK aw)))))), (a_n_order, .inl (cZ, 16, .inr (.inr (.inr (.inr (qO aw n_no go)))))), (a_n_union, .inl (cZ, 12, .inr (.inr (.inr (.inr (qU aw n_nu)))))), (a_n_gens, .inl (cI, 16, .inl n_gens)), (a_n, .inr (10, [.int n_persons, .int n_unions, .ref a_n_year, .ref a_n_parents, .ref a_n_letters, .ref a_n_union, .ref a_n_order, .int n_rows, .ref a_n_gens, .ref a_n_levels, .ref a_n_kins, .ref a_n_col])), (a_n_levels, .inl (cI, 12, .inl n_levels))] ++ rws cI cJ aw n_un n_nu n_ln n_od n_no kc) H := hP
  have hD : va_D A ([(a_n_kins, .inl (cK, 16, .inr (.inr (.inr (.inr (qK aw)))))), (a_n_order, .inl (cZ, 16, .inr (.inr (.inr (.inr (qO aw n_no go)))))), (a_n_union, .inl (cZ, 12, .inr (.inr (.inr (.inr (qU aw n_nu)))))), (a_n_gens, .inl (cI, 16, .inl n_gens)), (a_n, .inr (10, [.int n_persons, .int n_unions, .ref a_n_year, .ref a_n_parents, .ref a_n_letters, .ref a_n_union, .ref a_n_order, .int n_rows, .ref a_n_gens, .ref a_n_levels, .ref a_n_kins, .ref a_n_col])), (a_n_levels, .inl (cI, 12, .inl n_levels))] ++ rws cI cJ aw n_un n_nu n_ln n_od n_no kc) := hD
  refine lv_icmp_ge (tgt := 29) hx hb dX10_box_19 (by decide) (fun h9 => ?_) (fun h9 => ?_)
  · have hf := itt h9 hf
    refine lv_iload_n hx hb dX10_box_29 rfl (lv_at hl 0 rfl) ?_
    cases hf
    exact g_iretX S hr hlocks (adV, fun _ => none, fun _ _ => 0) (hP.part [4, 3, 0, 5, 1, 2] rfl) (hD.part [4, 3, 0, 5, 1, 2] rfl rfl) hS (Nat.le_refl _) (Nat.le_refl _) dX10_box_30
  · have hf := itf h9 hf
    refine lv_bipush (v := 16) hx hb dX10_box_22 (by decide) ?_
    refine lv_iload_n hx hb dX10_box_24 rfl (lv_at hl 2 rfl) ?_
    refine lv_iadd hx hb dX10_box_25 ?_
    refine lv_goto (tgt := 30) hx hb dX10_box_26 (by decide) ?_
    cases hf
    exact g_iretX S hr hlocks (adV, fun _ => none, fun _ _ => 0) (hP.part [4, 3, 0, 5, 1, 2] rfl) (hD.part [4, 3, 0, 5, 1, 2] rfl rfl) hS (Nat.le_refl _) (Nat.le_refl _) dX10_box_30
set_option maxHeartbeats 4000000 in
set_option maxRecDepth 100000 in
theorem c_X10_place (a_n a_n_year a_n_parents a_n_letters a_n_union a_n_order a_n_gens a_n_levels a_n_kins a_n_col : Nat) (aw : Nat → Nat) (go : Nat → Option Nat) (kc : Nat → Nat → Int64) (n_persons : Int32) (n_unions : Int32) (n_rows : Int32) (n_un : Nat → Nat → Int32) (n_nu : Nat) (n_ln : Nat → Nat) (n_od : Nat → Nat → Int32) (n_no : Nat) (v1 : Int32) (v2 : Int32) (r9 : Int32) (hf : p10_place n_ln n_od n_no v1 v2 = some r9) : gXM l dC dI cI cJ cZ cK adK adV yX10_place cX10_place 4 (some .int) (0) (0) 0 0 [.ref a_n, .int v1, .int v2] ([(a_n, .inr (10, [.int n_persons, .int n_unions, .ref a_n_year, .ref a_n_parents, .ref a_n_letters, .ref a_n_union, .ref a_n_order, .int n_rows, .ref a_n_gens, .ref a_n_levels, .ref a_n_kins, .ref a_n_col])), (a_n_kins, .inl (cK, 16, .inr (.inr (.inr (.inr (qK aw)))))), (a_n_order, .inl (cZ, 16, .inr (.inr (.inr (.inr (qO aw n_no go)))))), (a_n_union, .inl (cZ, 12, .inr (.inr (.inr (.inr (qU aw n_nu))))))] ++ rws cI cJ aw n_un n_nu n_ln n_od n_no kc) (fun _ : EX => ([(a_n, .inr (10, [.int n_persons, .int n_unions, .ref a_n_year, .ref a_n_parents, .ref a_n_letters, .ref a_n_union, .ref a_n_order, .int n_rows, .ref a_n_gens, .ref a_n_levels, .ref a_n_kins, .ref a_n_col])), (a_n_kins, .inl (cK, 16, .inr (.inr (.inr (.inr (qK aw)))))), (a_n_order, .inl (cZ, 16, .inr (.inr (.inr (.inr (qO aw n_no go)))))), (a_n_union, .inl (cZ, 12, .inr (.inr (.inr (.inr (qU aw n_nu))))))] ++ rws cI cJ aw n_un n_nu n_ln n_od n_no kc)) (fun _ => some (.int r9)) := by
  refine g_startX (own := RX10) (by decide +kernel) rfl (Nat.le_of_ble_eq_true rfl) ?_
  intro p e s m below meth c A ls S hr hlocks hE hG hP hD hS hA hl hin
  have hFU : FU = 1024 := rfl
  have hx := S.1
  have hb := S.2.1
  have hml := S.2.2.1
  have hown := S.2.2.2.1
  have htg : ∀ z ∈ gw, z.before ([.ref a_n, .int v1, .int v2] : List Value).toArray s = true := fun w h => S.2.2.2.2 w (List.mem_cons_of_mem _ h)
  have hl : lv_has ls 4 [(0, .ref a_n), (1, .int v1), (2, .int v2)] := hl
  have hS0 := hS
  obtain ⟨H, hH⟩ : ∃ H, H = s.heap := ⟨_, rfl⟩
  obtain ⟨locs, hlc⟩ : ∃ locs : List Loc, locs = [] := ⟨_, rfl⟩
  have hS : va_S A s.heap H locs := by rw [hH, hlc]; exact hS0
  have hP : va_P (dC, dI) vwCl ([(a_n, .inr (10, [.int n_persons, .int n_unions, .ref a_n_year, .ref a_n_parents, .ref a_n_letters, .ref a_n_union, .ref a_n_order, .int n_rows, .ref a_n_gens, .ref a_n_levels, .ref a_n_kins, .ref a_n_col])), (a_n_kins, .inl (cK, 16, .inr (.inr (.inr (.inr (qK aw)))))), (a_n_order, .inl (cZ, 16, .inr (.inr (.inr (.inr (qO aw n_no go)))))), (a_n_union, .inl (cZ, 12, .inr (.inr (.inr (.inr (qU aw n_nu))))))] ++ rws cI cJ aw n_un n_nu n_ln n_od n_no kc) H := by rw [hH]; exact hP
  suffices hgo : W p l e ({ frames := 0, cells := 0, slots := 0, locals := 0 }) s m ([.ref a_n, .int v1, .int v2] : List Value).toArray below meth c H locs 0 0 (MQ below (gXQ dC dI (fun _ => some (.int r9)) A (fun _ : EX => ([(a_n, .inr (10, [.int n_persons, .int n_unions, .ref a_n_year, .ref a_n_parents, .ref a_n_letters, .ref a_n_union, .ref a_n_order, .int n_rows, .ref a_n_gens, .ref a_n_levels, .ref a_n_kins, .ref a_n_col])), (a_n_kins, .inl (cK, 16, .inr (.inr (.inr (.inr (qK aw)))))), (a_n_order, .inl (cZ, 16, .inr (.inr (.inr (.inr (qO aw n_no go)))))), (a_n_union, .inl (cZ, 12, .inr (.inr (.inr (.inr (qU aw n_nu))))))] ++ rws cI cJ aw n_un n_nu n_ln n_od n_no kc))) ([.ref a_n, .int v1, .int v2] : List Value).toArray s 0 0 A) (F0 m 0 ls []) by rw [hH, hlc] at hgo; exact hgo
  rw [p10_place] at hf
  have J33 : ∀  (H : Heap) (locs : List Loc) (ls : Array Slot), p10_place_J33  = some r9 → va_P (dC, dI) vwCl ([(a_n, .inr (10, [.int n_persons, .int n_unions, .ref a_n_year, .ref a_n_parents, .ref a_n_letters, .ref a_n_union, .ref a_n_order, .int n_rows, .ref a_n_gens, .ref a_n_levels, .ref a_n_kins, .ref a_n_col])), (a_n_kins, .inl (cK, 16, .inr (.inr (.inr (.inr (qK aw)))))), (a_n_order, .inl (cZ, 16, .inr (.inr (.inr (.inr (qO aw n_no go)))))), (a_n_union, .inl (cZ, 12, .inr (.inr (.inr (.inr (qU aw n_nu))))))] ++ rws cI cJ aw n_un n_nu n_ln n_od n_no kc) H → va_D A ([(a_n, .inr (10, [.int n_persons, .int n_unions, .ref a_n_year, .ref a_n_parents, .ref a_n_letters, .ref a_n_union, .ref a_n_order, .int n_rows, .ref a_n_gens, .ref a_n_levels, .ref a_n_kins, .ref a_n_col])), (a_n_kins, .inl (cK, 16, .inr (.inr (.inr (.inr (qK aw)))))), (a_n_order, .inl (cZ, 16, .inr (.inr (.inr (.inr (qO aw n_no go)))))), (a_n_union, .inl (cZ, 12, .inr (.inr (.inr (.inr (qU aw n_nu))))))] ++ rws cI cJ aw n_un n_nu n_ln n_od n_no kc) → va_S A s.heap H locs → lv_has ls 4 [] → W p l e ({ frames := 0, cells := 0, slots := 0, locals := 0 }) s m ([.ref a_n, .int v1, .int v2] : List Value).toArray below meth c H locs 0 0 (MQ below (gXQ dC dI (fun _ => some (.int r9)) A (fun _ : EX => ([(a_n, .inr (10, [.int n_persons, .int n_unions, .ref a_n_year, .ref a_n_parents, .ref a_n_letters, .ref a_n_union, .ref a_n_order, .int n_rows, .ref a_n_gens, .ref a_n_levels, .ref a_n_kins, .ref a_n_col])), (a_n_kins, .inl (cK, 16, .inr (.inr (.inr (.inr (qK aw)))))), (a_n_order, .inl (cZ, 16, .inr (.inr (.inr (.inr (qO aw n_no go)))))), (a_n_union, .inl (cZ, 12, .inr (.inr (.inr (.inr (qU aw n_nu))))))] ++ rws cI cJ aw n_un n_nu n_ln n_od n_no kc))) ([.ref a_n, .int v1, .int v2] : List Value).toArray s 0 0 A) (F0 m 33 ls []) := by
    intro  H locs ls hf hP hD hS hl
    rw [p10_place_J33] at hf
    refine lv_iconst (v := -1) hx hb dX10_place_33 (by decide) ?_
    cases hf
    exact g_iretX S hr hlocks (adV, fun _ => none, fun _ _ => 0) hP hD hS (Nat.le_refl _) (Nat.le_refl _) dX10_place_34
  refine lv_iconst (v := 0) hx hb dX10_place_0 (by decide) ?_
  refine lv_istore_n (lv' := [(3, .int (0 : Int32)), (0, .ref a_n), (1, .int v1), (2, .int v2)]) hx hb dX10_place_1 rfl hl (by decide) rfl (fun ls hl => ?_)
  have K2 : ∀ (n2 : Nat) (v3_2 : Int32) (ex2 : (Int32) ⊕ (Unit)) (H : Heap) (locs : List Loc) (ls : Array Slot), p10_place_L2 n_ln n_no n_od v1 v2 n2 v3_2 = some ex2 → oc ex2 (fun r_x2 => some r_x2) (fun _ => p10_place_J33) = some r9 → va_P (dC, dI) vwCl ([(a_n, .inr (10, [.int n_persons, .int n_unions, .ref a_n_year, .ref a_n_parents, .ref a_n_letters, .ref a_n_union, .ref a_n_order, .int n_rows, .ref a_n_gens, .ref a_n_levels, .ref a_n_kins, .ref a_n_col])), (a_n_kins, .inl (cK, 16, .inr (.inr (.inr (.inr (qK aw)))))), (a_n_order, .inl (cZ, 16, .inr (.inr (.inr (.inr (qO aw n_no go)))))), (a_n_union, .inl (cZ, 12, .inr (.inr (.inr (.inr (qU aw n_nu))))))] ++ rws cI cJ aw n_un n_nu n_ln n_od n_no kc) H → va_D A ([(a_n, .inr (10, [.int n_persons, .int n_unions, .ref a_n_year, .ref a_n_parents, .ref a_n_letters, .ref a_n_union, .ref a_n_order, .int n_rows, .ref a_n_gens, .ref a_n_levels, .ref a_n_kins, .ref a_n_col])), (a_n_kins, .inl (cK, 16, .inr (.inr (.inr (.inr (qK aw)))))), (a_n_order, .inl (cZ, 16, .inr (.inr (.inr (.inr (qO aw n_no go)))))), (a_n_union, .inl (cZ, 12, .inr (.inr (.inr (.inr (qU aw n_nu))))))] ++ rws cI cJ aw n_un n_nu n_ln n_od n_no kc) → va_S A s.heap H locs → lv_has ls 4 [(0, .ref a_n), (1, .int v1), (2, .int v2), (3, .int v3_2)] → W p l e ({ frames := 0, cells := 0, slots := 0, locals := 0 }) s m ([.ref a_n, .int v1, .int v2] : List Value).toArray below meth c H locs 0 0 (MQ below (gXQ dC dI (fun _ => some (.int r9)) A (fun _ : EX => ([(a_n, .inr (10, [.int n_persons, .int n_unions, .ref a_n_year, .ref a_n_parents, .ref a_n_letters, .ref a_n_union, .ref a_n_order, .int n_rows, .ref a_n_gens, .ref a_n_levels, .ref a_n_kins, .ref a_n_col])), (a_n_kins, .inl (cK, 16, .inr (.inr (.inr (.inr (qK aw)))))), (a_n_order, .inl (cZ, 16, .inr (.inr (.inr (.inr (qO aw n_no go)))))), (a_n_union, .inl (cZ, 12, .inr (.inr (.inr (.inr (qU aw n_nu))))))] ++ rws cI cJ aw n_un n_nu n_ln n_od n_no kc))) ([.ref a_n, .int v1, .int v2] : List Value).toArray s 0 0 A) (F0 m 2 ls []) := by
    intro n2
    induction n2 with
    | zero => intro v3_2 ex2 H locs ls hf; rw [p10_place_L2] at hf; cases hf
    | succ n2 ih2 =>
      intro v3_2 ex2 H locs ls hf hk2 hP hD hS hl
      rw [p10_place_L2, p10_place_L2_B] at hf
      refine lv_iload_n hx hb dX10_place_2 rfl (lv_at hl 3 rfl) ?_
      refine lv_aload_n hx hb dX10_place_3 rfl (lv_at hl 0 rfl) ?_
      refine va_get (D := (dC, dI)) (ci := 10) (v := .ref a_n_order) (C := RX10) (T := TX10) (N := 12) hx hb htg inX10 hown hE.1 hP 0 rfl rfl 6 (by decide) (htg _ tw554) (fun _ h9 => h9) rfl dX10_place_4 ?_
      refine lv_iload_n hx hb dX10_place_7 rfl (lv_at hl 1 rfl) ?_
      obtain ⟨h8, hf⟩ := gd_s hf
      obtain ⟨hq8, hf⟩ := gd_s hf
      refine g_aldR (b := (aw (3 * v1.toNatClampNeg + 1))) hx hb hE hP 2 2 rfl rfl h8 (if_pos (vin_lt hq8)) dX10_place_8 ?_
      refine va_alen (v := (Int32.ofNat (n_ln v1.toNatClampNeg))) hx hb hE.1 hP _ 0 (rO_get (X := [(a_n, .inr (10, [.int n_persons, .int n_unions, .ref a_n_year, .ref a_n_parents, .ref a_n_letters, .ref a_n_union, .ref a_n_order, .int n_rows, .ref a_n_gens, .ref a_n_levels, .ref a_n_kins, .ref a_n_col])), (a_n_kins, .inl (cK, 16, .inr (.inr (.inr (.inr (qK aw)))))), (a_n_order, .inl (cZ, 16, .inr (.inr (.inr (.inr (qO aw n_no go)))))), (a_n_union, .inl (cZ, 12, .inr (.inr (.inr (.inr (qU aw n_nu))))))]) (vin_lt hq8)) rfl rfl dX10_place_9 ?_
      refine lv_icmp_ge (tgt := 33) hx hb dX10_place_10 (by decide) (fun h9 => ?_) (fun h9 => ?_)
      · have hf := itt h9 hf
        cases hf
        have hf := hk2
        dsimp only [oc] at hf
        exact J33 H locs ls hf hP hD hS (lv_sub hl [] rfl)
      · have hf := itf h9 hf
        refine lv_aload_n hx hb dX10_place_13 rfl (lv_at hl 0 rfl) ?_
        refine va_get (D := (dC, dI)) (ci := 10) (v := .ref a_n_order) (C := RX10) (T := TX10) (N := 12) hx hb htg inX10 hown hE.1 hP 0 rfl rfl 6 (by decide) (htg _ tw554) (fun _ h9 => h9) rfl dX10_place_14 ?_
        refine lv_iload_n hx hb dX10_place_17 rfl (lv_at hl 1 rfl) ?_
        obtain ⟨h8, hf⟩ := gd_s hf
        obtain ⟨hq18, hf⟩ := gd_s hf
        refine g_aldR (b := (aw (3 * v1.toNatClampNeg + 1))) hx hb hE hP 2 2 rfl rfl h8 (if_pos (vin_lt hq18)) dX10_place_18 ?_
        refine lv_iload_n hx hb dX10_place_19 rfl (lv_at hl 3 rfl) ?_
        obtain ⟨h9, hf⟩ := gd_s hf
        refine va_iald hx hb hE.1 hP _ 0 (rO_get (X := [(a_n, .inr (10, [.int n_persons, .int n_unions, .ref a_n_year, .ref a_n_parents, .ref a_n_letters, .ref a_n_union, .ref a_n_order, .int n_rows, .ref a_n_gens, .ref a_n_levels, .ref a_n_kins, .ref a_n_col])), (a_n_kins, .inl (cK, 16, .inr (.inr (.inr (.inr (qK aw)))))), (a_n_order, .inl (cZ, 16, .inr (.inr (.inr (.inr (qO aw n_no go)))))), (a_n_union, .inl (cZ, 12, .inr (.inr (.inr (.inr (qU aw n_nu))))))]) (vin_lt hq18)) rfl h9 dX10_place_20 ?_
        refine lv_iload_n hx hb dX10_place_21 rfl (lv_at hl 2 rfl) ?_
        refine lv_icmp_ne (tgt := 27) hx hb dX10_place_22 (by decide) (fun h9 => ?_) (fun h9 => ?_)
        · have hf := itf h9 hf
          obtain ⟨t27, h9⟩ : ∃ z : Int32, z = (v3_2 + (1 : Int32)) := ⟨_, rfl⟩
          have hf := lb_e h9 hf
          refine lv_iinc (v := t27) (lv' := [(3, .int t27), (0, .ref a_n), (1, .int v1), (2, .int v2)]) hx hb dX10_place_27 hl (k := 3) rfl (by rw [h9]; rfl) (by decide) rfl (fun ls hl => ?_)
          refine lv_goto (tgt := 2) hx hb dX10_place_30 (by decide) ?_
          exact ih2 t27 ex2 H locs ls hf hk2 hP hD hS (lv_sub hl [1, 2, 3, 0] rfl)
        · have hf := itt h9 hf
          refine lv_iload_n hx hb dX10_place_25 rfl (lv_at hl 3 rfl) ?_
          cases hf
          have hf := hk2
          dsimp only [oc] at hf
          cases hf
          exact g_iretX S hr hlocks (adV, fun _ => none, fun _ _ => 0) hP hD hS (Nat.le_refl _) (Nat.le_refl _) dX10_place_26
  obtain ⟨ex, h9, hf⟩ := os_s hf
  exact K2 FU (0 : Int32) ex H locs ls h9 hf hP hD hS (lv_sub hl [1, 2, 3, 0] rfl)
set_option maxHeartbeats 4000000 in
set_option maxRecDepth 100000 in
theorem c_X10_at (a_n a_n_year a_n_parents a_n_letters a_n_union a_n_order a_n_gens a_n_levels a_n_kins a_n_col : Nat) (aw : Nat → Nat) (go : Nat → Option Nat) (kc : Nat → Nat → Int64) (n_persons : Int32) (n_unions : Int32) (n_rows : Int32) (n_gens : Nat → Int32) (n_levels : Nat → Int32) (n_un : Nat → Nat → Int32) (n_nu : Nat) (n_ln : Nat → Nat) (n_od : Nat → Nat → Int32) (n_no : Nat) (v1 : Int32) (v2 : Int32) (r9 : Int32) (hf : p10_at n_gens n_levels n_un n_nu n_ln n_od n_no v1 v2 = some r9) : gXM l dC dI cI cJ cZ cK adK adV yX10_at cX10_at 3 (some .int) (2) (44) 0 0 [.ref a_n, .int v1, .int v2] ([(a_n, .inr (10, [.int n_persons, .int n_unions, .ref a_n_year, .ref a_n_parents, .ref a_n_letters, .ref a_n_union, .ref a_n_order, .int n_rows, .ref a_n_gens, .ref a_n_levels, .ref a_n_kins, .ref a_n_col])), (a_n_gens, .inl (cI, 16, .inl n_gens)), (a_n_kins, .inl (cK, 16, .inr (.inr (.inr (.inr (qK aw)))))), (a_n_levels, .inl (cI, 12, .inl n_levels)), (a_n_order, .inl (cZ, 16, .inr (.inr (.inr (.inr (qO aw n_no go)))))), (a_n_union, .inl (cZ, 12, .inr (.inr (.inr (.inr (qU aw n_nu))))))] ++ rws cI cJ aw n_un n_nu n_ln n_od n_no kc) (fun _ : EX => ([(a_n, .inr (10, [.int n_persons, .int n_unions, .ref a_n_year, .ref a_n_parents, .ref a_n_letters, .ref a_n_union, .ref a_n_order, .int n_rows, .ref a_n_gens, .ref a_n_levels, .ref a_n_kins, .ref a_n_col])), (a_n_gens, .inl (cI, 16, .inl n_gens)), (a_n_kins, .inl (cK, 16, .inr (.inr (.inr (.inr (qK aw)))))), (a_n_levels, .inl (cI, 12, .inl n_levels)), (a_n_order, .inl (cZ, 16, .inr (.inr (.inr (.inr (qO aw n_no go)))))), (a_n_union, .inl (cZ, 12, .inr (.inr (.inr (.inr (qU aw n_nu))))))] ++ rws cI cJ aw n_un n_nu n_ln n_od n_no kc)) (fun _ => some (.int r9)) := by
  refine g_startX (own := RX10) (by decide +kernel) rfl (Nat.le_of_ble_eq_true rfl) ?_
  intro p e s m below meth c A ls S hr hlocks hE hG hP hD hS hA hl hin
  have hFU : FU = 1024 := rfl
  have hx := S.1
  have hb := S.2.1
  have hml := S.2.2.1
  have hown := S.2.2.2.1
  have htg : ∀ z ∈ gw, z.before ([.ref a_n, .int v1, .int v2] : List Value).toArray s = true := fun w h => S.2.2.2.2 w (List.mem_cons_of_mem _ h)
  have hl : lv_has ls 3 [(0, .ref a_n), (1, .int v1), (2, .int v2)] := hl
  have hS0 := hS
  obtain ⟨H, hH⟩ : ∃ H, H = s.heap := ⟨_, rfl⟩
  obtain ⟨locs, hlc⟩ : ∃ locs : List Loc, locs = [] := ⟨_, rfl⟩
  have hS : va_S A s.heap H locs := by rw [hH, hlc]; exact hS0
  have hP : va_P (dC, dI) vwCl ([(a_n, .inr (10, [.int n_persons, .int n_unions, .ref a_n_year, .ref a_n_parents, .ref a_n_letters, .ref a_n_union, .ref a_n_order, .int n_rows, .ref a_n_gens, .ref a_n_levels, .ref a_n_kins, .ref a_n_col])), (a_n_gens, .inl (cI, 16, .inl n_gens)), (a_n_kins, .inl (cK, 16, .inr (.inr (.inr (.inr (qK aw)))))), (a_n_levels, .inl (cI, 12, .inl n_levels)), (a_n_order, .inl (cZ, 16, .inr (.inr (.inr (.inr (qO aw n_no go)))))), (a_n_union, .inl (cZ, 12, .inr (.inr (.inr (.inr (qU aw n_nu))))))] ++ rws cI cJ aw n_un n_nu n_ln n_od n_no kc) H := by rw [hH]; exact hP
  suffices hgo : W p l e ({ frames := 2, cells := 0, slots := 0, locals := 44 }) s m ([.ref a_n, .int v1, .int v2] : List Value).toArray below meth c H locs 0 0 (MQ below (gXQ dC dI (fun _ => some (.int r9)) A (fun _ : EX => ([(a_n, .inr (10, [.int n_persons, .int n_unions, .ref a_n_year, .ref a_n_parents, .ref a_n_letters, .ref a_n_union, .ref a_n_order, .int n_rows, .ref a_n_gens, .ref a_n_levels, .ref a_n_kins, .ref a_n_col])), (a_n_gens, .inl (cI, 16, .inl n_gens)), (a_n_kins, .inl (cK, 16, .inr (.inr (.inr (.inr (qK aw)))))), (a_n_levels, .inl (cI, 12, .inl n_levels)), (a_n_order, .inl (cZ, 16, .inr (.inr (.inr (.inr (qO aw n_no go)))))), (a_n_union, .inl (cZ, 12, .inr (.inr (.inr (.inr (qU aw n_nu))))))] ++ rws cI cJ aw n_un n_nu n_ln n_od n_no kc))) ([.ref a_n, .int v1, .int v2] : List Value).toArray s 0 0 A) (F0 m 0 ls []) by rw [hH, hlc] at hgo; exact hgo
  rw [p10_at] at hf
  refine lv_aload_n hx hb dX10_at_0 rfl (lv_at hl 0 rfl) ?_
  refine lv_aload_n hx hb dX10_at_1 rfl (lv_at hl 0 rfl) ?_
  refine lv_iload_n hx hb dX10_at_2 rfl (lv_at hl 1 rfl) ?_
  obtain ⟨r3, h9, hf⟩ := ob_s hf
  refine gxVQ (index := 72) S htg hE hG (c_X10_level a_n a_n_year a_n_parents a_n_letters a_n_union a_n_order a_n_gens a_n_levels a_n_kins a_n_col n_persons n_unions n_rows n_levels v1 r3 h9) mX10_level tw616 ⟨Nat.le_of_ble_eq_true rfl, Nat.le_of_ble_eq_true rfl⟩ hP hD hS hA ⟨Nat.zero_le _, Nat.zero_le _⟩ 0 10 rfl rfl rfl (X := [(a_n, .inr (10, [.int n_persons, .int n_unions, .ref a_n_year, .ref a_n_parents, .ref a_n_letters, .ref a_n_union, .ref a_n_order, .int n_rows, .ref a_n_gens, .ref a_n_levels, .ref a_n_kins, .ref a_n_col])), (a_n_gens, .inl (cI, 16, .inl n_gens)), (a_n_kins, .inl (cK, 16, .inr (.inr (.inr (.inr (qK aw)))))), (a_n_levels, .inl (cI, 12, .inl n_levels)), (a_n_order, .inl (cZ, 16, .inr (.inr (.inr (.inr (qO aw n_no go)))))), (a_n_union, .inl (cZ, 12, .inr (.inr (.inr (.inr (qU aw n_nu))))))]) (cx := [(a_n, .inr (10, [.int n_persons, .int n_unions, .ref a_n_year, .ref a_n_parents, .ref a_n_letters, .ref a_n_union, .ref a_n_order, .int n_rows, .ref a_n_gens, .ref a_n_levels, .ref a_n_kins, .ref a_n_col])), (a_n_levels, .inl (cI, 12, .inl n_levels))]) (pl := rws cI cJ aw n_un n_nu n_ln n_od n_no kc) (wr := [(a_n_gens, .inl (cI, 16, .inl n_gens)), (a_n_kins, .inl (cK, 16, .inr (.inr (.inr (.inr (qK aw)))))), (a_n_order, .inl (cZ, 16, .inr (.inr (.inr (.inr (qO aw n_no go)))))), (a_n_union, .inl (cZ, 12, .inr (.inr (.inr (.inr (qU aw n_nu))))))]) [0, 3] [1, 2, 4, 5] rfl rfl rfl rfl (by decide) (As := [.int v1]) (rest := [.ref a_n]) rfl hl.1 rfl (Nat.le_of_ble_eq_true rfl) dX10_at_3 (fun H locs xx3 hP hD hS => ?_)
  refine W.eq (g2 := F0 m 6 ls [.int r3, .ref a_n]) rfl ?_
  have hP : va_P (dC, dI) vwCl ([(a_n_gens, .inl (cI, 16, .inl n_gens)), (a_n_kins, .inl (cK, 16, .inr (.inr (.inr (.inr (qK aw)))))), (a_n_order, .inl (cZ, 16, .inr (.inr (.inr (.inr (qO aw n_no go)))))), (a_n_union, .inl (cZ, 12, .inr (.inr (.inr (.inr (qU aw n_nu)))))), (a_n, .inr (10, [.int n_persons, .int n_unions, .ref a_n_year, .ref a_n_parents, .ref a_n_letters, .ref a_n_union, .ref a_n_order, .int n_rows, .ref a_n_gens, .ref a_n_levels, .ref a_n_kins, .ref a_n_col])), (a_n_levels, .inl (cI, 12, .inl n_levels))] ++ rws cI cJ aw n_un n_nu n_ln n_od n_no kc) H := hP
  have hD : va_D A ([(a_n_gens, .inl (cI, 16, .inl n_gens)), (a_n_kins, .inl (cK, 16, .inr (.inr (.inr (.inr (qK aw)))))), (a_n_order, .inl (cZ, 16, .inr (.inr (.inr (.inr (qO aw n_no go)))))), (a_n_union, .inl (cZ, 12, .inr (.inr (.inr (.inr (qU aw n_nu)))))), (a_n, .inr (10, [.int n_persons, .int n_unions, .ref a_n_year, .ref a_n_parents, .ref a_n_letters, .ref a_n_union, .ref a_n_order, .int n_rows, .ref a_n_gens, .ref a_n_levels, .ref a_n_kins, .ref a_n_col])), (a_n_levels, .inl (cI, 12, .inl n_levels))] ++ rws cI cJ aw n_un n_nu n_ln n_od n_no kc) := hD
  refine lv_aload_n hx hb dX10_at_6 rfl (lv_at hl 0 rfl) ?_
  refine lv_iload_n hx hb dX10_at_7 rfl (lv_at hl 1 rfl) ?_
  refine lv_iload_n hx hb dX10_at_8 rfl (lv_at hl 2 rfl) ?_
  obtain ⟨r9, h9, hf⟩ := ob_s hf
  refine gxVP (index := 83) S htg hE hG (c_X10_box a_n a_n_year a_n_parents a_n_letters a_n_union a_n_order a_n_gens a_n_levels a_n_kins a_n_col aw go kc n_persons n_unions n_rows n_gens n_levels n_un n_nu n_ln n_od n_no v1 v2 r9 h9) mX10_box tw1041 ⟨Nat.le_of_ble_eq_true rfl, Nat.le_of_ble_eq_true rfl⟩ hP hD hS hA ⟨Nat.zero_le _, Nat.zero_le _⟩ 4 10 rfl rfl rfl (X := [(a_n_gens, .inl (cI, 16, .inl n_gens)), (a_n_kins, .inl (cK, 16, .inr (.inr (.inr (.inr (qK aw)))))), (a_n_order, .inl (cZ, 16, .inr (.inr (.inr (.inr (qO aw n_no go)))))), (a_n_union, .inl (cZ, 12, .inr (.inr (.inr (.inr (qU aw n_nu)))))), (a_n, .inr (10, [.int n_persons, .int n_unions, .ref a_n_year, .ref a_n_parents, .ref a_n_letters, .ref a_n_union, .ref a_n_order, .int n_rows, .ref a_n_gens, .ref a_n_levels, .ref a_n_kins, .ref a_n_col])), (a_n_levels, .inl (cI, 12, .inl n_levels))]) (cx := [(a_n, .inr (10, [.int n_persons, .int n_unions, .ref a_n_year, .ref a_n_parents, .ref a_n_letters, .ref a_n_union, .ref a_n_order, .int n_rows, .ref a_n_gens, .ref a_n_levels, .ref a_n_kins, .ref a_n_col])), (a_n_gens, .inl (cI, 16, .inl n_gens)), (a_n_kins, .inl (cK, 16, .inr (.inr (.inr (.inr (qK aw)))))), (a_n_levels, .inl (cI, 12, .inl n_levels)), (a_n_order, .inl (cZ, 16, .inr (.inr (.inr (.inr (qO aw n_no go)))))), (a_n_union, .inl (cZ, 12, .inr (.inr (.inr (.inr (qU aw n_nu))))))]) (pl := rws cI cJ aw n_un n_nu n_ln n_od n_no kc) (wr := []) [4, 0, 1, 5, 2, 3] [] rfl rfl rfl rfl (by decide) (As := [.int v1, .int v2]) (rest := [.int r3, .ref a_n]) rfl hl.1 rfl (Nat.le_of_ble_eq_true rfl) dX10_at_9 (fun H locs xx9 hP hD hS => ?_)
  refine W.eq (g2 := F0 m 12 ls [.int r9, .int r3, .ref a_n]) rfl ?_
  have hP : va_P (dC, dI) vwCl ([(a_n, .inr (10, [.int n_persons, .int n_unions, .ref a_n_year, .ref a_n_parents, .ref a_n_letters, .ref a_n_union, .ref a_n_order, .int n_rows, .ref a_n_gens, .ref a_n_levels, .ref a_n_kins, .ref a_n_col])), (a_n_gens, .inl (cI, 16, .inl n_gens)), (a_n_kins, .inl (cK, 16, .inr (.inr (.inr (.inr (qK aw)))))), (a_n_levels, .inl (cI, 12, .inl n_levels)), (a_n_order, .inl (cZ, 16, .inr (.inr (.inr (.inr (qO aw n_no go)))))), (a_n_union, .inl (cZ, 12, .inr (.inr (.inr (.inr (qU aw n_nu))))))] ++ rws cI cJ aw n_un n_nu n_ln n_od n_no kc) H := hP
  have hD : va_D A ([(a_n, .inr (10, [.int n_persons, .int n_unions, .ref a_n_year, .ref a_n_parents, .ref a_n_letters, .ref a_n_union, .ref a_n_order, .int n_rows, .ref a_n_gens, .ref a_n_levels, .ref a_n_kins, .ref a_n_col])), (a_n_gens, .inl (cI, 16, .inl n_gens)), (a_n_kins, .inl (cK, 16, .inr (.inr (.inr (.inr (qK aw)))))), (a_n_levels, .inl (cI, 12, .inl n_levels)), (a_n_order, .inl (cZ, 16, .inr (.inr (.inr (.inr (qO aw n_no go)))))), (a_n_union, .inl (cZ, 12, .inr (.inr (.inr (.inr (qU aw n_nu))))))] ++ rws cI cJ aw n_un n_nu n_ln n_od n_no kc) := hD
  obtain ⟨r12, h9, hf⟩ := ob_s hf
  refine gxVP (index := 86) S htg hE hG (c_X10_place a_n a_n_year a_n_parents a_n_letters a_n_union a_n_order a_n_gens a_n_levels a_n_kins a_n_col aw go kc n_persons n_unions n_rows n_un n_nu n_ln n_od n_no r3 r9 r12 h9) mX10_place tw1045 ⟨Nat.le_of_ble_eq_true rfl, Nat.le_of_ble_eq_true rfl⟩ hP hD hS hA ⟨Nat.zero_le _, Nat.zero_le _⟩ 0 10 rfl rfl rfl (X := [(a_n, .inr (10, [.int n_persons, .int n_unions, .ref a_n_year, .ref a_n_parents, .ref a_n_letters, .ref a_n_union, .ref a_n_order, .int n_rows, .ref a_n_gens, .ref a_n_levels, .ref a_n_kins, .ref a_n_col])), (a_n_gens, .inl (cI, 16, .inl n_gens)), (a_n_kins, .inl (cK, 16, .inr (.inr (.inr (.inr (qK aw)))))), (a_n_levels, .inl (cI, 12, .inl n_levels)), (a_n_order, .inl (cZ, 16, .inr (.inr (.inr (.inr (qO aw n_no go)))))), (a_n_union, .inl (cZ, 12, .inr (.inr (.inr (.inr (qU aw n_nu))))))]) (cx := [(a_n, .inr (10, [.int n_persons, .int n_unions, .ref a_n_year, .ref a_n_parents, .ref a_n_letters, .ref a_n_union, .ref a_n_order, .int n_rows, .ref a_n_gens, .ref a_n_levels, .ref a_n_kins, .ref a_n_col])), (a_n_kins, .inl (cK, 16, .inr (.inr (.inr (.inr (qK aw)))))), (a_n_order, .inl (cZ, 16, .inr (.inr (.inr (.inr (qO aw n_no go)))))), (a_n_union, .inl (cZ, 12, .inr (.inr (.inr (.inr (qU aw n_nu))))))]) (pl := rws cI cJ aw n_un n_nu n_ln n_od n_no kc) (wr := [(a_n_gens, .inl (cI, 16, .inl n_gens)), (a_n_levels, .inl (cI, 12, .inl n_levels))]) [0, 2, 4, 5] [1, 3] rfl rfl rfl rfl (by decide) (As := [.int r3, .int r9]) (rest := []) rfl hl.1 rfl (Nat.le_of_ble_eq_true rfl) dX10_at_12 (fun H locs xx12 hP hD hS => ?_)
  refine W.eq (g2 := F0 m 15 ls [.int r12]) rfl ?_
  have hP : va_P (dC, dI) vwCl ([(a_n_gens, .inl (cI, 16, .inl n_gens)), (a_n_levels, .inl (cI, 12, .inl n_levels)), (a_n, .inr (10, [.int n_persons, .int n_unions, .ref a_n_year, .ref a_n_parents, .ref a_n_letters, .ref a_n_union, .ref a_n_order, .int n_rows, .ref a_n_gens, .ref a_n_levels, .ref a_n_kins, .ref a_n_col])), (a_n_kins, .inl (cK, 16, .inr (.inr (.inr (.inr (qK aw)))))), (a_n_order, .inl (cZ, 16, .inr (.inr (.inr (.inr (qO aw n_no go)))))), (a_n_union, .inl (cZ, 12, .inr (.inr (.inr (.inr (qU aw n_nu))))))] ++ rws cI cJ aw n_un n_nu n_ln n_od n_no kc) H := hP
  have hD : va_D A ([(a_n_gens, .inl (cI, 16, .inl n_gens)), (a_n_levels, .inl (cI, 12, .inl n_levels)), (a_n, .inr (10, [.int n_persons, .int n_unions, .ref a_n_year, .ref a_n_parents, .ref a_n_letters, .ref a_n_union, .ref a_n_order, .int n_rows, .ref a_n_gens, .ref a_n_levels, .ref a_n_kins, .ref a_n_col])), (a_n_kins, .inl (cK, 16, .inr (.inr (.inr (.inr (qK aw)))))), (a_n_order, .inl (cZ, 16, .inr (.inr (.inr (.inr (qO aw n_no go)))))), (a_n_union, .inl (cZ, 12, .inr (.inr (.inr (.inr (qU aw n_nu))))))] ++ rws cI cJ aw n_un n_nu n_ln n_od n_no kc) := hD
  cases hf
  exact g_iretX S hr hlocks (adV, fun _ => none, fun _ _ => 0) (hP.part [2, 0, 3, 1, 4, 5] rfl) (hD.part [2, 0, 3, 1, 4, 5] rfl rfl) hS (Nat.le_refl _) (Nat.le_refl _) dX10_at_15
set_option maxHeartbeats 4000000 in
set_option maxRecDepth 100000 in
theorem c_X10_middle (a_n a_n_year a_n_parents a_n_letters a_n_union a_n_order a_n_gens a_n_levels a_n_kins a_n_col : Nat) (aw : Nat → Nat) (go : Nat → Option Nat) (kc : Nat → Nat → Int64) (n_persons : Int32) (n_unions : Int32) (n_rows : Int32) (n_gens : Nat → Int32) (n_levels : Nat → Int32) (n_un : Nat → Nat → Int32) (n_nu : Nat) (n_ln : Nat → Nat) (n_od : Nat → Nat → Int32) (n_no : Nat) (v1 : Int32) (r9 : Int32) (hf : p10_middle n_gens n_levels n_un n_nu n_ln n_od n_no v1 = some r9) : gXM l dC dI cI cJ cZ cK adK adV yX10_middle cX10_middle 2 (some .int) (3) (66) 0 0 [.ref a_n, .int v1] ([(a_n, .inr (10, [.int n_persons, .int n_unions, .ref a_n_year, .ref a_n_parents, .ref a_n_letters, .ref a_n_union, .ref a_n_order, .int n_rows, .ref a_n_gens, .ref a_n_levels, .ref a_n_kins, .ref a_n_col])), (a_n_gens, .inl (cI, 16, .inl n_gens)), (a_n_kins, .inl (cK, 16, .inr (.inr (.inr (.inr (qK aw)))))), (a_n_levels, .inl (cI, 12, .inl n_levels)), (a_n_order, .inl (cZ, 16, .inr (.inr (.inr (.inr (qO aw n_no go)))))), (a_n_union, .inl (cZ, 12, .inr (.inr (.inr (.inr (qU aw n_nu))))))] ++ rws cI cJ aw n_un n_nu n_ln n_od n_no kc) (fun _ : EX => ([(a_n, .inr (10, [.int n_persons, .int n_unions, .ref a_n_year, .ref a_n_parents, .ref a_n_letters, .ref a_n_union, .ref a_n_order, .int n_rows, .ref a_n_gens, .ref a_n_levels, .ref a_n_kins, .ref a_n_col])), (a_n_gens, .inl (cI, 16, .inl n_gens)), (a_n_kins, .inl (cK, 16, .inr (.inr (.inr (.inr (qK aw)))))), (a_n_levels, .inl (cI, 12, .inl n_levels)), (a_n_order, .inl (cZ, 16, .inr (.inr (.inr (.inr (qO aw n_no go)))))), (a_n_union, .inl (cZ, 12, .inr (.inr (.inr (.inr (qU aw n_nu))))))] ++ rws cI cJ aw n_un n_nu n_ln n_od n_no kc)) (fun _ => some (.int r9)) := by
  refine g_startX (own := RX10) (by decide +kernel) rfl (Nat.le_of_ble_eq_true rfl) ?_
  intro p e s m below meth c A ls S hr hlocks hE hG hP hD hS hA hl hin
  have hFU : FU = 1024 := rfl
  have hx := S.1
  have hb := S.2.1
  have hml := S.2.2.1
  have hown := S.2.2.2.1
  have htg : ∀ z ∈ gw, z.before ([.ref a_n, .int v1] : List Value).toArray s = true := fun w h => S.2.2.2.2 w (List.mem_cons_of_mem _ h)
  have hl : lv_has ls 2 [(0, .ref a_n), (1, .int v1)] := hl
  have hS0 := hS
  obtain ⟨H, hH⟩ : ∃ H, H = s.heap := ⟨_, rfl⟩
  obtain ⟨locs, hlc⟩ : ∃ locs : List Loc, locs = [] := ⟨_, rfl⟩
  have hS : va_S A s.heap H locs := by rw [hH, hlc]; exact hS0
  have hP : va_P (dC, dI) vwCl ([(a_n, .inr (10, [.int n_persons, .int n_unions, .ref a_n_year, .ref a_n_parents, .ref a_n_letters, .ref a_n_union, .ref a_n_order, .int n_rows, .ref a_n_gens, .ref a_n_levels, .ref a_n_kins, .ref a_n_col])), (a_n_gens, .inl (cI, 16, .inl n_gens)), (a_n_kins, .inl (cK, 16, .inr (.inr (.inr (.inr (qK aw)))))), (a_n_levels, .inl (cI, 12, .inl n_levels)), (a_n_order, .inl (cZ, 16, .inr (.inr (.inr (.inr (qO aw n_no go)))))), (a_n_union, .inl (cZ, 12, .inr (.inr (.inr (.inr (qU aw n_nu))))))] ++ rws cI cJ aw n_un n_nu n_ln n_od n_no kc) H := by rw [hH]; exact hP
  suffices hgo : W p l e ({ frames := 3, cells := 0, slots := 0, locals := 66 }) s m ([.ref a_n, .int v1] : List Value).toArray below meth c H locs 0 0 (MQ below (gXQ dC dI (fun _ => some (.int r9)) A (fun _ : EX => ([(a_n, .inr (10, [.int n_persons, .int n_unions, .ref a_n_year, .ref a_n_parents, .ref a_n_letters, .ref a_n_union, .ref a_n_order, .int n_rows, .ref a_n_gens, .ref a_n_levels, .ref a_n_kins, .ref a_n_col])), (a_n_gens, .inl (cI, 16, .inl n_gens)), (a_n_kins, .inl (cK, 16, .inr (.inr (.inr (.inr (qK aw)))))), (a_n_levels, .inl (cI, 12, .inl n_levels)), (a_n_order, .inl (cZ, 16, .inr (.inr (.inr (.inr (qO aw n_no go)))))), (a_n_union, .inl (cZ, 12, .inr (.inr (.inr (.inr (qU aw n_nu))))))] ++ rws cI cJ aw n_un n_nu n_ln n_od n_no kc))) ([.ref a_n, .int v1] : List Value).toArray s 0 0 A) (F0 m 0 ls []) by rw [hH, hlc] at hgo; exact hgo
  rw [p10_middle] at hf
  refine lv_aload_n hx hb dX10_middle_0 rfl (lv_at hl 0 rfl) ?_
  refine lv_iload_n hx hb dX10_middle_1 rfl (lv_at hl 1 rfl) ?_
  refine lv_iconst (v := 0) hx hb dX10_middle_2 (by decide) ?_
  obtain ⟨r3, h9, hf⟩ := ob_s hf
  refine gxVP (index := 89) S htg hE hG (c_X10_at a_n a_n_year a_n_parents a_n_letters a_n_union a_n_order a_n_gens a_n_levels a_n_kins a_n_col aw go kc n_persons n_unions n_rows n_gens n_levels n_un n_nu n_ln n_od n_no v1 (0 : Int32) r3 h9) mX10_at tw1037 ⟨Nat.le_of_ble_eq_true rfl, Nat.le_of_ble_eq_true rfl⟩ hP hD hS hA ⟨Nat.zero_le _, Nat.zero_le _⟩ 0 10 rfl rfl rfl (X := [(a_n, .inr (10, [.int n_persons, .int n_unions, .ref a_n_year, .ref a_n_parents, .ref a_n_letters, .ref a_n_union, .ref a_n_order, .int n_rows, .ref a_n_gens, .ref a_n_levels, .ref a_n_kins, .ref a_n_col])), (a_n_gens, .inl (cI, 16, .inl n_gens)), (a_n_kins, .inl (cK, 16, .inr (.inr (.inr (.inr (qK aw)))))), (a_n_levels, .inl (cI, 12, .inl n_levels)), (a_n_order, .inl (cZ, 16, .inr (.inr (.inr (.inr (qO aw n_no go)))))), (a_n_union, .inl (cZ, 12, .inr (.inr (.inr (.inr (qU aw n_nu))))))]) (cx := [(a_n, .inr (10, [.int n_persons, .int n_unions, .ref a_n_year, .ref a_n_parents, .ref a_n_letters, .ref a_n_union, .ref a_n_order, .int n_rows, .ref a_n_gens, .ref a_n_levels, .ref a_n_kins, .ref a_n_col])), (a_n_gens, .inl (cI, 16, .inl n_gens)), (a_n_kins, .inl (cK, 16, .inr (.inr (.inr (.inr (qK aw)))))), (a_n_levels, .inl (cI, 12, .inl n_levels)), (a_n_order, .inl (cZ, 16, .inr (.inr (.inr (.inr (qO aw n_no go)))))), (a_n_union, .inl (cZ, 12, .inr (.inr (.inr (.inr (qU aw n_nu))))))]) (pl := rws cI cJ aw n_un n_nu n_ln n_od n_no kc) (wr := []) [0, 1, 2, 3, 4, 5] [] rfl rfl rfl rfl (by decide) (As := [.int v1, .int (0 : Int32)]) (rest := []) rfl hl.1 rfl (Nat.le_of_ble_eq_true rfl) dX10_middle_3 (fun H locs xx3 hP hD hS => ?_)
  refine W.eq (g2 := F0 m 6 ls [.int r3]) rfl ?_
  have hP : va_P (dC, dI) vwCl ([(a_n, .inr (10, [.int n_persons, .int n_unions, .ref a_n_year, .ref a_n_parents, .ref a_n_letters, .ref a_n_union, .ref a_n_order, .int n_rows, .ref a_n_gens, .ref a_n_levels, .ref a_n_kins, .ref a_n_col])), (a_n_gens, .inl (cI, 16, .inl n_gens)), (a_n_kins, .inl (cK, 16, .inr (.inr (.inr (.inr (qK aw)))))), (a_n_levels, .inl (cI, 12, .inl n_levels)), (a_n_order, .inl (cZ, 16, .inr (.inr (.inr (.inr (qO aw n_no go)))))), (a_n_union, .inl (cZ, 12, .inr (.inr (.inr (.inr (qU aw n_nu))))))] ++ rws cI cJ aw n_un n_nu n_ln n_od n_no kc) H := hP
  have hD : va_D A ([(a_n, .inr (10, [.int n_persons, .int n_unions, .ref a_n_year, .ref a_n_parents, .ref a_n_letters, .ref a_n_union, .ref a_n_order, .int n_rows, .ref a_n_gens, .ref a_n_levels, .ref a_n_kins, .ref a_n_col])), (a_n_gens, .inl (cI, 16, .inl n_gens)), (a_n_kins, .inl (cK, 16, .inr (.inr (.inr (.inr (qK aw)))))), (a_n_levels, .inl (cI, 12, .inl n_levels)), (a_n_order, .inl (cZ, 16, .inr (.inr (.inr (.inr (qO aw n_no go)))))), (a_n_union, .inl (cZ, 12, .inr (.inr (.inr (.inr (qU aw n_nu))))))] ++ rws cI cJ aw n_un n_nu n_ln n_od n_no kc) := hD
  refine lv_aload_n hx hb dX10_middle_6 rfl (lv_at hl 0 rfl) ?_
  refine lv_iload_n hx hb dX10_middle_7 rfl (lv_at hl 1 rfl) ?_
  refine lv_iconst (v := 1) hx hb dX10_middle_8 (by decide) ?_
  obtain ⟨r9, h9, hf⟩ := ob_s hf
  refine gxVP (index := 89) S htg hE hG (c_X10_at a_n a_n_year a_n_parents a_n_letters a_n_union a_n_order a_n_gens a_n_levels a_n_kins a_n_col aw go kc n_persons n_unions n_rows n_gens n_levels n_un n_nu n_ln n_od n_no v1 (1 : Int32) r9 h9) mX10_at tw1037 ⟨Nat.le_of_ble_eq_true rfl, Nat.le_of_ble_eq_true rfl⟩ hP hD hS hA ⟨Nat.zero_le _, Nat.zero_le _⟩ 0 10 rfl rfl rfl (X := [(a_n, .inr (10, [.int n_persons, .int n_unions, .ref a_n_year, .ref a_n_parents, .ref a_n_letters, .ref a_n_union, .ref a_n_order, .int n_rows, .ref a_n_gens, .ref a_n_levels, .ref a_n_kins, .ref a_n_col])), (a_n_gens, .inl (cI, 16, .inl n_gens)), (a_n_kins, .inl (cK, 16, .inr (.inr (.inr (.inr (qK aw)))))), (a_n_levels, .inl (cI, 12, .inl n_levels)), (a_n_order, .inl (cZ, 16, .inr (.inr (.inr (.inr (qO aw n_no go)))))), (a_n_union, .inl (cZ, 12, .inr (.inr (.inr (.inr (qU aw n_nu))))))]) (cx := [(a_n, .inr (10, [.int n_persons, .int n_unions, .ref a_n_year, .ref a_n_parents, .ref a_n_letters, .ref a_n_union, .ref a_n_order, .int n_rows, .ref a_n_gens, .ref a_n_levels, .ref a_n_kins, .ref a_n_col])), (a_n_gens, .inl (cI, 16, .inl n_gens)), (a_n_kins, .inl (cK, 16, .inr (.inr (.inr (.inr (qK aw)))))), (a_n_levels, .inl (cI, 12, .inl n_levels)), (a_n_order, .inl (cZ, 16, .inr (.inr (.inr (.inr (qO aw n_no go)))))), (a_n_union, .inl (cZ, 12, .inr (.inr (.inr (.inr (qU aw n_nu))))))]) (pl := rws cI cJ aw n_un n_nu n_ln n_od n_no kc) (wr := []) [0, 1, 2, 3, 4, 5] [] rfl rfl rfl rfl (by decide) (As := [.int v1, .int (1 : Int32)]) (rest := [.int r3]) rfl hl.1 rfl (Nat.le_of_ble_eq_true rfl) dX10_middle_9 (fun H locs xx9 hP hD hS => ?_)
  refine W.eq (g2 := F0 m 12 ls [.int r9, .int r3]) rfl ?_
  have hP : va_P (dC, dI) vwCl ([(a_n, .inr (10, [.int n_persons, .int n_unions, .ref a_n_year, .ref a_n_parents, .ref a_n_letters, .ref a_n_union, .ref a_n_order, .int n_rows, .ref a_n_gens, .ref a_n_levels, .ref a_n_kins, .ref a_n_col])), (a_n_gens, .inl (cI, 16, .inl n_gens)), (a_n_kins, .inl (cK, 16, .inr (.inr (.inr (.inr (qK aw)))))), (a_n_levels, .inl (cI, 12, .inl n_levels)), (a_n_order, .inl (cZ, 16, .inr (.inr (.inr (.inr (qO aw n_no go)))))), (a_n_union, .inl (cZ, 12, .inr (.inr (.inr (.inr (qU aw n_nu))))))] ++ rws cI cJ aw n_un n_nu n_ln n_od n_no kc) H := hP
  have hD : va_D A ([(a_n, .inr (10, [.int n_persons, .int n_unions, .ref a_n_year, .ref a_n_parents, .ref a_n_letters, .ref a_n_union, .ref a_n_order, .int n_rows, .ref a_n_gens, .ref a_n_levels, .ref a_n_kins, .ref a_n_col])), (a_n_gens, .inl (cI, 16, .inl n_gens)), (a_n_kins, .inl (cK, 16, .inr (.inr (.inr (.inr (qK aw)))))), (a_n_levels, .inl (cI, 12, .inl n_levels)), (a_n_order, .inl (cZ, 16, .inr (.inr (.inr (.inr (qO aw n_no go)))))), (a_n_union, .inl (cZ, 12, .inr (.inr (.inr (.inr (qU aw n_nu))))))] ++ rws cI cJ aw n_un n_nu n_ln n_od n_no kc) := hD
  refine lv_iadd hx hb dX10_middle_12 ?_
  cases hf
  exact g_iretX S hr hlocks (adV, fun _ => none, fun _ _ => 0) hP hD hS (Nat.le_refl _) (Nat.le_refl _) dX10_middle_13
end G_44_Own00
