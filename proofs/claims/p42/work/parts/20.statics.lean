section G_20_statics
variable {l : Launch} {dC : Nat → ClassId} {dI : Nat → Nat → Nat} {cI cJ cZ cK : ClassId} {adK adV : Nat → Nat}
set_option maxHeartbeats 4000000 in
set_option maxRecDepth 100000 in
theorem c_X9_requireStripWidth (v0 : Int32) (hf : p9_requireStripWidth v0 = some (.inr ())) : gM l dC dI cI cJ cZ cK yX9_requireStripWidth cX9_requireStripWidth 1 none (0) (0) [.int v0] [] [] none := by
  refine g_start (own := RX9) (by decide +kernel) rfl (Nat.le_of_ble_eq_true rfl) ?_
  intro p e s m below meth c A ls S hr hlocks hE hP hD hS hA hl hin
  have hx := S.1
  have hb := S.2.1
  have hml := S.2.2.1
  have hown := S.2.2.2.1
  have htg : ∀ z ∈ gw, z.before ([.int v0] : List Value).toArray s = true := fun w h => S.2.2.2.2 w (List.mem_cons_of_mem _ h)
  have hl : lv_has ls 1 [(0, .int v0)] := hl
  have hS0 := hS
  obtain ⟨H, hH⟩ : ∃ H, H = s.heap := ⟨_, rfl⟩
  obtain ⟨locs, hlc⟩ : ∃ locs : List Loc, locs = [] := ⟨_, rfl⟩
  have hS : va_S A s.heap H locs := by rw [hH, hlc]; exact hS0
  have hP : va_P (dC, dI) vwCl [] H := by rw [hH]; exact hP
  suffices hgo : W p l e ({ frames := 0, cells := 0, slots := 0, locals := 0 }) s m ([.int v0] : List Value).toArray below meth c H locs 0 0 (MQ below (gQ dC dI none A []) ([.int v0] : List Value).toArray s 0 0 A) (F0 m 0 ls []) by rw [hH, hlc] at hgo; exact hgo
  rw [p9_requireStripWidth] at hf
  refine lv_iload_n hx hb dX9_requireStripWidth_0 rfl (lv_at hl 0 rfl) ?_
  refine lv_bipush (v := 10) hx hb dX9_requireStripWidth_1 (by decide) ?_
  refine lv_icmp_lt (tgt := 13) hx hb dX9_requireStripWidth_3 (by decide) (fun h9 => ?_) (fun h9 => ?_)
  · have hf := itt h9 hf
    cases hf
  · have hf := itf h9 hf
    refine lv_iload_n hx hb dX9_requireStripWidth_6 rfl (lv_at hl 0 rfl) ?_
    refine lv_sipush (v := 200) hx hb dX9_requireStripWidth_7 (by decide) ?_
    refine lv_icmp_le (tgt := 24) hx hb dX9_requireStripWidth_10 (by decide) (fun h9 => ?_) (fun h9 => ?_)
    · have hf := itt h9 hf
      have hf := oi_s hf
      exact g_vret S hr hlocks hP hD hS dX9_requireStripWidth_24
    · have hf := itf h9 hf
      cases hf
set_option maxHeartbeats 4000000 in
set_option maxRecDepth 100000 in
theorem c_X9_fill (a_p0 : Nat) (p0 : Nat → Int32) (n_p0 : Nat) (hn_p0 : n_p0 < 2147483648) (v1 : Int32) (p0_9 : Nat → Int32) (hf : p9_fill n_p0 p0 v1 = some p0_9) : gM l dC dI cI cJ cZ cK yX9_fill cX9_fill 3 none (0) (0) [.ref a_p0, .int v1] [(a_p0, .inl (cI, n_p0, .inl p0))] [(a_p0, .inl (cI, n_p0, .inl p0_9))] none := by
  refine g_start (own := RX9) (by decide +kernel) rfl (Nat.le_of_ble_eq_true rfl) ?_
  intro p e s m below meth c A ls S hr hlocks hE hP hD hS hA hl hin
  have hx := S.1
  have hb := S.2.1
  have hml := S.2.2.1
  have hown := S.2.2.2.1
  have htg : ∀ z ∈ gw, z.before ([.ref a_p0, .int v1] : List Value).toArray s = true := fun w h => S.2.2.2.2 w (List.mem_cons_of_mem _ h)
  have hl : lv_has ls 3 [(0, .ref a_p0), (1, .int v1)] := hl
  have hS0 := hS
  obtain ⟨H, hH⟩ : ∃ H, H = s.heap := ⟨_, rfl⟩
  obtain ⟨locs, hlc⟩ : ∃ locs : List Loc, locs = [] := ⟨_, rfl⟩
  have hS : va_S A s.heap H locs := by rw [hH, hlc]; exact hS0
  have hP : va_P (dC, dI) vwCl [(a_p0, .inl (cI, n_p0, .inl p0))] H := by rw [hH]; exact hP
  suffices hgo : W p l e ({ frames := 0, cells := 0, slots := 0, locals := 0 }) s m ([.ref a_p0, .int v1] : List Value).toArray below meth c H locs 0 0 (MQ below (gQ dC dI none A [(a_p0, .inl (cI, n_p0, .inl p0_9))]) ([.ref a_p0, .int v1] : List Value).toArray s 0 0 A) (F0 m 0 ls []) by rw [hH, hlc] at hgo; exact hgo
  rw [p9_fill] at hf
  have J22 : ∀ (p0_22 : Nat → Int32) (H : Heap) (locs : List Loc) (ls : Array Slot), p9_fill_J22 p0_22 = some p0_9 → va_P (dC, dI) vwCl [(a_p0, .inl (cI, n_p0, .inl p0_22))] H → va_D A [(a_p0, .inl (cI, n_p0, .inl p0_22))] → va_S A s.heap H locs → lv_has ls 3 [] → W p l e ({ frames := 0, cells := 0, slots := 0, locals := 0 }) s m ([.ref a_p0, .int v1] : List Value).toArray below meth c H locs 0 0 (MQ below (gQ dC dI none A [(a_p0, .inl (cI, n_p0, .inl p0_9))]) ([.ref a_p0, .int v1] : List Value).toArray s 0 0 A) (F0 m 22 ls []) := by
    intro p0_22 H locs ls hf hP hD hS hl
    rw [p9_fill_J22] at hf
    cases hf
    exact g_vret S hr hlocks hP hD hS dX9_fill_22
  refine lv_iconst (v := 0) hx hb dX9_fill_0 (by decide) ?_
  refine lv_istore_n (lv' := [(2, .int (0 : Int32)), (0, .ref a_p0), (1, .int v1)]) hx hb dX9_fill_1 rfl hl (by decide) rfl (fun ls hl => ?_)
  have K2 : ∀ (n2 : Nat) (v2_2 : Int32) (p0_2 : Nat → Int32) (ex2 : (Nat → Int32)) (H : Heap) (locs : List Loc) (ls : Array Slot), p9_fill_L2 n_p0 v1 n2 v2_2 p0_2 = some ex2 → (fun p0_x2 => p9_fill_J22 p0_x2) ex2 = some p0_9 → va_P (dC, dI) vwCl [(a_p0, .inl (cI, n_p0, .inl p0_2))] H → va_D A [(a_p0, .inl (cI, n_p0, .inl p0_2))] → va_S A s.heap H locs → lv_has ls 3 [(0, .ref a_p0), (1, .int v1), (2, .int v2_2)] → W p l e ({ frames := 0, cells := 0, slots := 0, locals := 0 }) s m ([.ref a_p0, .int v1] : List Value).toArray below meth c H locs 0 0 (MQ below (gQ dC dI none A [(a_p0, .inl (cI, n_p0, .inl p0_9))]) ([.ref a_p0, .int v1] : List Value).toArray s 0 0 A) (F0 m 2 ls []) := by
    intro n2
    induction n2 with
    | zero => intro v2_2 p0_2 ex2 H locs ls hf; rw [p9_fill_L2] at hf; cases hf
    | succ n2 ih2 =>
      intro v2_2 p0_2 ex2 H locs ls hf hk2 hP hD hS hl
      rw [p9_fill_L2, p9_fill_L2_B] at hf
      refine lv_aload_n hx hb dX9_fill_2 rfl (lv_at hl 0 rfl) ?_
      refine lv_ifnull hx hb dX9_fill_3 ?_
      refine lv_iload_n hx hb dX9_fill_6 rfl (lv_at hl 2 rfl) ?_
      refine lv_aload_n hx hb dX9_fill_7 rfl (lv_at hl 0 rfl) ?_
      refine va_alen (v := (Int32.ofNat n_p0)) hx hb hE.1 hP 0 0 rfl rfl rfl dX9_fill_8 ?_
      refine lv_icmp_ge (tgt := 22) hx hb dX9_fill_9 (by decide) (fun h9 => ?_) (fun h9 => ?_)
      · have hf := itt h9 hf
        cases hf
        have hf := hk2
        exact J22 p0_2 H locs ls hf hP hD hS (lv_sub hl [] rfl)
      · have hf := itf h9 hf
        refine lv_aload_n hx hb dX9_fill_12 rfl (lv_at hl 0 rfl) ?_
        refine lv_iload_n hx hb dX9_fill_13 rfl (lv_at hl 2 rfl) ?_
        refine lv_iload_n hx hb dX9_fill_14 rfl (lv_at hl 1 rfl) ?_
        obtain ⟨h9, hf⟩ := gd_s hf
        refine va_iast hx hb hE.1 hP hD hS 0 0 rfl rfl h9 dX9_fill_15 (fun H locs hP hD hS => ?_)
        obtain ⟨g15, h9⟩ : ∃ z, z = (upd p0_2 v2_2.toNatClampNeg v1) := ⟨_, rfl⟩
        have hf := lb_e h9 hf
        have hP : va_P (dC, dI) vwCl [(a_p0, .inl (cI, n_p0, .inl g15))] H := by rw [h9]; exact hP
        have hD : va_D A [(a_p0, .inl (cI, n_p0, .inl g15))] := by rw [h9]; exact hD
        obtain ⟨t16, h9⟩ : ∃ z : Int32, z = (v2_2 + (1 : Int32)) := ⟨_, rfl⟩
        have hf := lb_e h9 hf
        refine lv_iinc (v := t16) (lv' := [(2, .int t16), (0, .ref a_p0), (1, .int v1)]) hx hb dX9_fill_16 hl (k := 2) rfl (by rw [h9]; rfl) (by decide) rfl (fun ls hl => ?_)
        refine lv_goto (tgt := 2) hx hb dX9_fill_19 (by decide) ?_
        exact ih2 t16 g15 ex2 H locs ls hf hk2 hP hD hS (lv_sub hl [1, 2, 0] rfl)
  obtain ⟨ex, h9, hf⟩ := ob_s hf
  exact K2 FU (0 : Int32) p0 ex H locs ls h9 hf hP hD hS (lv_sub hl [1, 2, 0] rfl)
set_option maxHeartbeats 4000000 in
set_option maxRecDepth 100000 in
theorem c_X9_copyCells (a_p0 a_p2 : Nat) (p0 : Nat → Int32) (p2 : Nat → Int32) (n_p0 : Nat) (hn_p0 : n_p0 < 2147483648) (n_p2 : Nat) (hn_p2 : n_p2 < 2147483648) (v1 : Int32) (v3 : Int32) (v4 : Int32) (p2_9 : Nat → Int32) (hf : p9_copyCells n_p0 n_p2 p0 p2 v1 v3 v4 = some p2_9) : gM l dC dI cI cJ cZ cK yX9_copyCells cX9_copyCells 6 none (1) (22) [.ref a_p0, .int v1, .ref a_p2, .int v3, .int v4] [(a_p0, .inl (cI, n_p0, .inl p0)), (a_p2, .inl (cI, n_p2, .inl p2))] [(a_p0, .inl (cI, n_p0, .inl p0)), (a_p2, .inl (cI, n_p2, .inl p2_9))] none := by
  refine g_start (own := RX9) (by decide +kernel) rfl (Nat.le_of_ble_eq_true rfl) ?_
  intro p e s m below meth c A ls S hr hlocks hE hP hD hS hA hl hin
  have hx := S.1
  have hb := S.2.1
  have hml := S.2.2.1
  have hown := S.2.2.2.1
  have htg : ∀ z ∈ gw, z.before ([.ref a_p0, .int v1, .ref a_p2, .int v3, .int v4] : List Value).toArray s = true := fun w h => S.2.2.2.2 w (List.mem_cons_of_mem _ h)
  have hl : lv_has ls 6 [(0, .ref a_p0), (1, .int v1), (2, .ref a_p2), (3, .int v3), (4, .int v4)] := hl
  have hS0 := hS
  obtain ⟨H, hH⟩ : ∃ H, H = s.heap := ⟨_, rfl⟩
  obtain ⟨locs, hlc⟩ : ∃ locs : List Loc, locs = [] := ⟨_, rfl⟩
  have hS : va_S A s.heap H locs := by rw [hH, hlc]; exact hS0
  have hP : va_P (dC, dI) vwCl [(a_p0, .inl (cI, n_p0, .inl p0)), (a_p2, .inl (cI, n_p2, .inl p2))] H := by rw [hH]; exact hP
  suffices hgo : W p l e ({ frames := 1, cells := 0, slots := 0, locals := 22 }) s m ([.ref a_p0, .int v1, .ref a_p2, .int v3, .int v4] : List Value).toArray below meth c H locs 0 0 (MQ below (gQ dC dI none A [(a_p0, .inl (cI, n_p0, .inl p0)), (a_p2, .inl (cI, n_p2, .inl p2_9))]) ([.ref a_p0, .int v1, .ref a_p2, .int v3, .int v4] : List Value).toArray s 0 0 A) (F0 m 0 ls []) by rw [hH, hlc] at hgo; exact hgo
  rw [p9_copyCells] at hf
  have J32 : ∀ (p2_32 : Nat → Int32) (H : Heap) (locs : List Loc) (ls : Array Slot), p9_copyCells_J32 p2_32 = some p2_9 → va_P (dC, dI) vwCl [(a_p0, .inl (cI, n_p0, .inl p0)), (a_p2, .inl (cI, n_p2, .inl p2_32))] H → va_D A [(a_p0, .inl (cI, n_p0, .inl p0)), (a_p2, .inl (cI, n_p2, .inl p2_32))] → va_S A s.heap H locs → lv_has ls 6 [] → W p l e ({ frames := 1, cells := 0, slots := 0, locals := 22 }) s m ([.ref a_p0, .int v1, .ref a_p2, .int v3, .int v4] : List Value).toArray below meth c H locs 0 0 (MQ below (gQ dC dI none A [(a_p0, .inl (cI, n_p0, .inl p0)), (a_p2, .inl (cI, n_p2, .inl p2_9))]) ([.ref a_p0, .int v1, .ref a_p2, .int v3, .int v4] : List Value).toArray s 0 0 A) (F0 m 32 ls []) := by
    intro p2_32 H locs ls hf hP hD hS hl
    rw [p9_copyCells_J32] at hf
    cases hf
    exact g_vret S hr hlocks hP hD hS dX9_copyCells_32
  refine lv_iconst (v := 0) hx hb dX9_copyCells_0 (by decide) ?_
  refine lv_istore (lv' := [(5, .int (0 : Int32)), (0, .ref a_p0), (1, .int v1), (2, .ref a_p2), (3, .int v3), (4, .int v4)]) hx hb dX9_copyCells_1 hl (by decide) rfl (fun ls hl => ?_)
  have K3 : ∀ (n3 : Nat) (v5_3 : Int32) (p2_3 : Nat → Int32) (ex3 : (Nat → Int32)) (H : Heap) (locs : List Loc) (ls : Array Slot), p9_copyCells_L3 n_p0 n_p2 p0 v1 v3 v4 n3 v5_3 p2_3 = some ex3 → (fun p2_x3 => p9_copyCells_J32 p2_x3) ex3 = some p2_9 → va_P (dC, dI) vwCl [(a_p0, .inl (cI, n_p0, .inl p0)), (a_p2, .inl (cI, n_p2, .inl p2_3))] H → va_D A [(a_p0, .inl (cI, n_p0, .inl p0)), (a_p2, .inl (cI, n_p2, .inl p2_3))] → va_S A s.heap H locs → lv_has ls 6 [(0, .ref a_p0), (1, .int v1), (2, .ref a_p2), (3, .int v3), (4, .int v4), (5, .int v5_3)] → W p l e ({ frames := 1, cells := 0, slots := 0, locals := 22 }) s m ([.ref a_p0, .int v1, .ref a_p2, .int v3, .int v4] : List Value).toArray below meth c H locs 0 0 (MQ below (gQ dC dI none A [(a_p0, .inl (cI, n_p0, .inl p0)), (a_p2, .inl (cI, n_p2, .inl p2_9))]) ([.ref a_p0, .int v1, .ref a_p2, .int v3, .int v4] : List Value).toArray s 0 0 A) (F0 m 3 ls []) := by
    intro n3
    induction n3 with
    | zero => intro v5_3 p2_3 ex3 H locs ls hf; rw [p9_copyCells_L3] at hf; cases hf
    | succ n3 ih3 =>
      intro v5_3 p2_3 ex3 H locs ls hf hk3 hP hD hS hl
      rw [p9_copyCells_L3, p9_copyCells_L3_B] at hf
      refine lv_iload hx hb dX9_copyCells_3 (lv_at hl 5 rfl) ?_
      refine lv_iload hx hb dX9_copyCells_5 (lv_at hl 4 rfl) ?_
      refine lv_icmp_ge (tgt := 32) hx hb dX9_copyCells_7 (by decide) (fun h9 => ?_) (fun h9 => ?_)
      · have hf := itt h9 hf
        cases hf
        have hf := hk3
        exact J32 p2_3 H locs ls hf hP hD hS (lv_sub hl [] rfl)
      · have hf := itf h9 hf
        refine lv_aload_n hx hb dX9_copyCells_10 rfl (lv_at hl 2 rfl) ?_
        refine lv_iload_n hx hb dX9_copyCells_11 rfl (lv_at hl 3 rfl) ?_
        refine lv_iload hx hb dX9_copyCells_12 (lv_at hl 5 rfl) ?_
        refine lv_iadd hx hb dX9_copyCells_14 ?_
        refine lv_aload_n hx hb dX9_copyCells_15 rfl (lv_at hl 0 rfl) ?_
        refine lv_iload_n hx hb dX9_copyCells_16 rfl (lv_at hl 1 rfl) ?_
        refine lv_iload hx hb dX9_copyCells_17 (lv_at hl 5 rfl) ?_
        refine lv_iadd hx hb dX9_copyCells_19 ?_
        refine gcS (index := 146) S hE (c_X9_at a_p0 p0 n_p0 hn_p0 (v1 + v5_3) (pAt n_p0 p0 (v1 + v5_3)) rfl) mX9_at tw418 ⟨Nat.le_of_ble_eq_true rfl, Nat.le_of_ble_eq_true rfl⟩ hP hD hS hA ⟨Nat.zero_le _, Nat.zero_le _⟩ (wr := [(a_p2, .inl (cI, n_p2, .inl p2_3))]) [0] [1] rfl rfl rfl rfl (by decide) (As := [.ref a_p0, .int (v1 + v5_3)]) (rest := [.int (v3 + v5_3), .ref a_p2]) rfl hl.1 rfl (Nat.le_of_ble_eq_true rfl) dX9_copyCells_20 (fun H locs hP hD hS => ?_)
        refine W.eq (g2 := F0 m 23 ls [.int (pAt n_p0 p0 (v1 + v5_3)), .int (v3 + v5_3), .ref a_p2]) rfl ?_
        have hP : va_P (dC, dI) vwCl [(a_p2, .inl (cI, n_p2, .inl p2_3)), (a_p0, .inl (cI, n_p0, .inl p0))] H := hP
        have hD : va_D A [(a_p2, .inl (cI, n_p2, .inl p2_3)), (a_p0, .inl (cI, n_p0, .inl p0))] := hD
        obtain ⟨p2_23, h9⟩ : ∃ z, pPut n_p2 p2_3 (v3 + v5_3) (pAt n_p0 p0 (v1 + v5_3)) = z := ⟨_, rfl⟩
        have hf := lb_e h9.symm hf
        refine gcS (index := 325) S hE (c_X9_put a_p2 p2_3 n_p2 hn_p2 (v3 + v5_3) (pAt n_p0 p0 (v1 + v5_3)) p2_23 h9) mX9_put tw419 ⟨Nat.le_of_ble_eq_true rfl, Nat.le_of_ble_eq_true rfl⟩ hP hD hS hA ⟨Nat.zero_le _, Nat.zero_le _⟩ (wr := [(a_p0, .inl (cI, n_p0, .inl p0))]) [0] [1] rfl rfl rfl rfl (by decide) (As := [.ref a_p2, .int (v3 + v5_3), .int (pAt n_p0 p0 (v1 + v5_3))]) (rest := []) rfl hl.1 rfl (Nat.le_of_ble_eq_true rfl) dX9_copyCells_23 (fun H locs hP hD hS => ?_)
        refine W.eq (g2 := F0 m 26 ls []) rfl ?_
        have hP : va_P (dC, dI) vwCl [(a_p0, .inl (cI, n_p0, .inl p0)), (a_p2, .inl (cI, n_p2, .inl p2_23))] H := hP
        have hD : va_D A [(a_p0, .inl (cI, n_p0, .inl p0)), (a_p2, .inl (cI, n_p2, .inl p2_23))] := hD
        obtain ⟨t26, h9⟩ : ∃ z : Int32, z = (v5_3 + (1 : Int32)) := ⟨_, rfl⟩
        have hf := lb_e h9 hf
        refine lv_iinc (v := t26) (lv' := [(5, .int t26), (0, .ref a_p0), (1, .int v1), (2, .ref a_p2), (3, .int v3), (4, .int v4)]) hx hb dX9_copyCells_26 hl (k := 5) rfl (by rw [h9]; rfl) (by decide) rfl (fun ls hl => ?_)
        refine lv_goto (tgt := 3) hx hb dX9_copyCells_29 (by decide) ?_
        exact ih3 t26 p2_23 ex3 H locs ls hf hk3 hP hD hS (lv_sub hl [1, 2, 3, 4, 5, 0] rfl)
  obtain ⟨ex, h9, hf⟩ := ob_s hf
  exact K3 FU (0 : Int32) p2 ex H locs ls h9 hf hP hD hS (lv_sub hl [1, 2, 3, 4, 5, 0] rfl)
set_option maxHeartbeats 4000000 in
set_option maxRecDepth 100000 in
theorem c_X9_bit (v0 : Int32) (r9 : Int32) (hf : p9_bit v0 = r9) : gM l dC dI cI cJ cZ cK yX9_bit cX9_bit 1 (some .int) (0) (0) [.int v0] [] [] (some (.int r9)) := by
  refine g_start (own := RX9) (by decide +kernel) rfl (Nat.le_of_ble_eq_true rfl) ?_
  intro p e s m below meth c A ls S hr hlocks hE hP hD hS hA hl hin
  have hx := S.1
  have hb := S.2.1
  have hml := S.2.2.1
  have hown := S.2.2.2.1
  have htg : ∀ z ∈ gw, z.before ([.int v0] : List Value).toArray s = true := fun w h => S.2.2.2.2 w (List.mem_cons_of_mem _ h)
  have hl : lv_has ls 1 [(0, .int v0)] := hl
  have hS0 := hS
  obtain ⟨H, hH⟩ : ∃ H, H = s.heap := ⟨_, rfl⟩
  obtain ⟨locs, hlc⟩ : ∃ locs : List Loc, locs = [] := ⟨_, rfl⟩
  have hS : va_S A s.heap H locs := by rw [hH, hlc]; exact hS0
  have hP : va_P (dC, dI) vwCl [] H := by rw [hH]; exact hP
  suffices hgo : W p l e ({ frames := 0, cells := 0, slots := 0, locals := 0 }) s m ([.int v0] : List Value).toArray below meth c H locs 0 0 (MQ below (gQ dC dI (some (.int r9)) A []) ([.int v0] : List Value).toArray s 0 0 A) (F0 m 0 ls []) by rw [hH, hlc] at hgo; exact hgo
  rw [p9_bit] at hf
  refine lv_iload_n hx hb dX9_bit_0 rfl (lv_at hl 0 rfl) ?_
  refine lv_if_lt (tgt := 10) hx hb dX9_bit_1 (by decide) (fun h9 => ?_) (fun h9 => ?_)
  · have hf := itt h9 hf
    refine lv_iconst (v := 0) hx hb dX9_bit_10 (by decide) ?_
    refine lv_goto (tgt := 17) hx hb dX9_bit_11 (by decide) ?_
    cases hf
    exact g_iret S hr hlocks hP hD hS dX9_bit_17
  · have hf := itf h9 hf
    refine lv_iload_n hx hb dX9_bit_4 rfl (lv_at hl 0 rfl) ?_
    refine lv_bipush (v := 16) hx hb dX9_bit_5 (by decide) ?_
    refine lv_icmp_lt (tgt := 14) hx hb dX9_bit_7 (by decide) (fun h9 => ?_) (fun h9 => ?_)
    · have hf := itt h9 hf
      refine lv_iconst (v := 1) hx hb dX9_bit_14 (by decide) ?_
      refine lv_iload_n hx hb dX9_bit_15 rfl (lv_at hl 0 rfl) ?_
      refine lv_ishl hx hb dX9_bit_16 ?_
      cases hf
      exact g_iret S hr hlocks hP hD hS dX9_bit_17
    · have hf := itf h9 hf
      refine lv_iconst (v := 0) hx hb dX9_bit_10 (by decide) ?_
      refine lv_goto (tgt := 17) hx hb dX9_bit_11 (by decide) ?_
      cases hf
      exact g_iret S hr hlocks hP hD hS dX9_bit_17
set_option maxHeartbeats 4000000 in
set_option maxRecDepth 100000 in
theorem c_X9_unionOfReference (v0 : Int32) (r9 : Int32) (hf : p9_unionOfReference v0 = r9) : gM l dC dI cI cJ cZ cK yX9_unionOfReference cX9_unionOfReference 1 (some .int) (0) (0) [.int v0] [] [] (some (.int r9)) := by
  refine g_start (own := RX9) (by decide +kernel) rfl (Nat.le_of_ble_eq_true rfl) ?_
  intro p e s m below meth c A ls S hr hlocks hE hP hD hS hA hl hin
  have hx := S.1
  have hb := S.2.1
  have hml := S.2.2.1
  have hown := S.2.2.2.1
  have htg : ∀ z ∈ gw, z.before ([.int v0] : List Value).toArray s = true := fun w h => S.2.2.2.2 w (List.mem_cons_of_mem _ h)
  have hl : lv_has ls 1 [(0, .int v0)] := hl
  have hS0 := hS
  obtain ⟨H, hH⟩ : ∃ H, H = s.heap := ⟨_, rfl⟩
  obtain ⟨locs, hlc⟩ : ∃ locs : List Loc, locs = [] := ⟨_, rfl⟩
  have hS : va_S A s.heap H locs := by rw [hH, hlc]; exact hS0
  have hP : va_P (dC, dI) vwCl [] H := by rw [hH]; exact hP
  suffices hgo : W p l e ({ frames := 0, cells := 0, slots := 0, locals := 0 }) s m ([.int v0] : List Value).toArray below meth c H locs 0 0 (MQ below (gQ dC dI (some (.int r9)) A []) ([.int v0] : List Value).toArray s 0 0 A) (F0 m 0 ls []) by rw [hH, hlc] at hgo; exact hgo
  rw [p9_unionOfReference] at hf
  refine lv_iload_n hx hb dX9_unionOfReference_0 rfl (lv_at hl 0 rfl) ?_
  refine lv_bipush (v := 16) hx hb dX9_unionOfReference_1 (by decide) ?_
  refine lv_icmp_ge (tgt := 10) hx hb dX9_unionOfReference_3 (by decide) (fun h9 => ?_) (fun h9 => ?_)
  · have hf := itt h9 hf
    refine lv_iload_n hx hb dX9_unionOfReference_10 rfl (lv_at hl 0 rfl) ?_
    refine lv_bipush (v := 16) hx hb dX9_unionOfReference_11 (by decide) ?_
    refine lv_isub hx hb dX9_unionOfReference_13 ?_
    cases hf
    exact g_iret S hr hlocks hP hD hS dX9_unionOfReference_14
  · have hf := itf h9 hf
    refine lv_iconst (v := -1) hx hb dX9_unionOfReference_6 (by decide) ?_
    refine lv_goto (tgt := 14) hx hb dX9_unionOfReference_7 (by decide) ?_
    cases hf
    exact g_iret S hr hlocks hP hD hS dX9_unionOfReference_14
end G_20_statics
