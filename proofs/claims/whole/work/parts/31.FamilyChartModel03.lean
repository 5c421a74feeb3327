section G_31_FamilyChartModel03
variable {l : Launch} {dC : Nat → ClassId} {dI : Nat → Nat → Nat} {cI cJ cZ : ClassId} {adK adV : Nat → Nat}
def p10_copy_J37 (p2_37 : Nat → Int64) : Option ((Nat → Int64)) := some p2_37
def p10_copy_L3_B (n_p0 : Nat) (n_p2 : Nat) (p0 : Nat → Int64) (v1 : Int32) (v3 : Int32) (k3 : Int32 → (Nat → Int64) → Option ((Nat → Int64))) (v4_3 : Int32) (p2_3 : Nat → Int64) : Option ((Nat → Int64)) := (if (130 : Int32) ≤ v4_3 then some p2_3 else gd (((130 : Int32) * v1) + v4_3) n_p0 (gd (((130 : Int32) * v3) + v4_3) n_p2 (lb (vp_updL p2_3 (((130 : Int32) * v3) + v4_3).toNatClampNeg (p0 (((130 : Int32) * v1) + v4_3).toNatClampNeg)) (fun g30 => lb (v4_3 + (1 : Int32)) (fun t31 => (k3 t31 g30))))))
def p10_copy_L3 (n_p0 : Nat) (n_p2 : Nat) (p0 : Nat → Int64) (v1 : Int32) (v3 : Int32) : Nat → Int32 → (Nat → Int64) → Option ((Nat → Int64))
  | 0, _, _ => none
  | n+1, v4_3, p2_3 => p10_copy_L3_B n_p0 n_p2 p0 v1 v3 (p10_copy_L3 n_p0 n_p2 p0 v1 v3 n) v4_3 p2_3
def p10_copy (n_p0 : Nat) (n_p2 : Nat) (p0 : Nat → Int64) (p2 : Nat → Int64) (v1 : Int32) (v3 : Int32) : Option ((Nat → Int64)) := (ob (p10_copy_L3 n_p0 n_p2 p0 v1 v3 FU (0 : Int32) p2) (fun p2_x3 => p10_copy_J37 p2_x3))
set_option maxHeartbeats 4000000 in
set_option maxRecDepth 100000 in
theorem c_X10_copy (a_p0 a_p2 : Nat) (p0 : Nat → Int64) (p2 : Nat → Int64) (n_p0 : Nat) (hn_p0 : n_p0 < 2147483648) (n_p2 : Nat) (hn_p2 : n_p2 < 2147483648) (v1 : Int32) (v3 : Int32) (p2_9 : Nat → Int64) (hf : p10_copy n_p0 n_p2 p0 p2 v1 v3 = some p2_9) : gM l dC dI cI cJ cZ yX10_copy cX10_copy 5 none (0) (0) [.ref a_p0, .int v1, .ref a_p2, .int v3] [(a_p0, .inl (cJ, n_p0, .inr (.inl p0))), (a_p2, .inl (cJ, n_p2, .inr (.inl p2)))] [(a_p0, .inl (cJ, n_p0, .inr (.inl p0))), (a_p2, .inl (cJ, n_p2, .inr (.inl p2_9)))] none := by
  refine g_start (own := RX10) (by decide +kernel) rfl (Nat.le_of_ble_eq_true rfl) ?_
  intro p e s m below meth c A ls S hr hlocks hE hP hD hS hA hl hin
  have hx := S.1
  have hb := S.2.1
  have hml := S.2.2.1
  have hown := S.2.2.2.1
  have htg : ∀ z ∈ gw, z.before ([.ref a_p0, .int v1, .ref a_p2, .int v3] : List Value).toArray s = true := fun w h => S.2.2.2.2 w (List.mem_cons_of_mem _ h)
  have hl : lv_has ls 5 [(0, .ref a_p0), (1, .int v1), (2, .ref a_p2), (3, .int v3)] := hl
  have hS0 := hS
  obtain ⟨H, hH⟩ : ∃ H, H = s.heap := ⟨_, rfl⟩
  obtain ⟨locs, hlc⟩ : ∃ locs : List Loc, locs = [] := ⟨_, rfl⟩
  have hS : va_S A s.heap H locs := by rw [hH, hlc]; exact hS0
  have hP : va_P (dC, dI) vwCl [(a_p0, .inl (cJ, n_p0, .inr (.inl p0))), (a_p2, .inl (cJ, n_p2, .inr (.inl p2)))] H := by rw [hH]; exact hP
  suffices hgo : W p l e ({ frames := 0, cells := 0, slots := 0, locals := 0 }) s m ([.ref a_p0, .int v1, .ref a_p2, .int v3] : List Value).toArray below meth c H locs 0 0 (MQ below (gQ dC dI none A [(a_p0, .inl (cJ, n_p0, .inr (.inl p0))), (a_p2, .inl (cJ, n_p2, .inr (.inl p2_9)))]) ([.ref a_p0, .int v1, .ref a_p2, .int v3] : List Value).toArray s 0 0 A) (F0 m 0 ls []) by rw [hH, hlc] at hgo; exact hgo
  rw [p10_copy] at hf
  have J37 : ∀ (p2_37 : Nat → Int64) (H : Heap) (locs : List Loc) (ls : Array Slot), p10_copy_J37 p2_37 = some p2_9 → va_P (dC, dI) vwCl [(a_p0, .inl (cJ, n_p0, .inr (.inl p0))), (a_p2, .inl (cJ, n_p2, .inr (.inl p2_37)))] H → va_D A [(a_p0, .inl (cJ, n_p0, .inr (.inl p0))), (a_p2, .inl (cJ, n_p2, .inr (.inl p2_37)))] → va_S A s.heap H locs → lv_has ls 5 [] → W p l e ({ frames := 0, cells := 0, slots := 0, locals := 0 }) s m ([.ref a_p0, .int v1, .ref a_p2, .int v3] : List Value).toArray below meth c H locs 0 0 (MQ below (gQ dC dI none A [(a_p0, .inl (cJ, n_p0, .inr (.inl p0))), (a_p2, .inl (cJ, n_p2, .inr (.inl p2_9)))]) ([.ref a_p0, .int v1, .ref a_p2, .int v3] : List Value).toArray s 0 0 A) (F0 m 37 ls []) := by
    intro p2_37 H locs ls hf hP hD hS hl
    rw [p10_copy_J37] at hf
    cases hf
    exact g_vret S hr hlocks hP hD hS dX10_copy_37
  refine lv_iconst (v := 0) hx hb dX10_copy_0 (by decide) ?_
  refine lv_istore (lv' := [(4, .int (0 : Int32)), (0, .ref a_p0), (1, .int v1), (2, .ref a_p2), (3, .int v3)]) hx hb dX10_copy_1 hl (by decide) rfl (fun ls hl => ?_)
  have K3 : ∀ (n3 : Nat) (v4_3 : Int32) (p2_3 : Nat → Int64) (ex3 : (Nat → Int64)) (H : Heap) (locs : List Loc) (ls : Array Slot), p10_copy_L3 n_p0 n_p2 p0 v1 v3 n3 v4_3 p2_3 = some ex3 → (fun p2_x3 => p10_copy_J37 p2_x3) ex3 = some p2_9 → va_P (dC, dI) vwCl [(a_p0, .inl (cJ, n_p0, .inr (.inl p0))), (a_p2, .inl (cJ, n_p2, .inr (.inl p2_3)))] H → va_D A [(a_p0, .inl (cJ, n_p0, .inr (.inl p0))), (a_p2, .inl (cJ, n_p2, .inr (.inl p2_3)))] → va_S A s.heap H locs → lv_has ls 5 [(0, .ref a_p0), (1, .int v1), (2, .ref a_p2), (3, .int v3), (4, .int v4_3)] → W p l e ({ frames := 0, cells := 0, slots := 0, locals := 0 }) s m ([.ref a_p0, .int v1, .ref a_p2, .int v3] : List Value).toArray below meth c H locs 0 0 (MQ below (gQ dC dI none A [(a_p0, .inl (cJ, n_p0, .inr (.inl p0))), (a_p2, .inl (cJ, n_p2, .inr (.inl p2_9)))]) ([.ref a_p0, .int v1, .ref a_p2, .int v3] : List Value).toArray s 0 0 A) (F0 m 3 ls []) := by
    intro n3
    induction n3 with
    | zero => intro v4_3 p2_3 ex3 H locs ls hf; rw [p10_copy_L3] at hf; cases hf
    | succ n3 ih3 =>
      intro v4_3 p2_3 ex3 H locs ls hf hk3 hP hD hS hl
      rw [p10_copy_L3, p10_copy_L3_B] at hf
      refine lv_iload hx hb dX10_copy_3 (lv_at hl 4 rfl) ?_
      refine lv_sipush (v := 130) hx hb dX10_copy_5 (by decide) ?_
      refine lv_icmp_ge (tgt := 37) hx hb dX10_copy_8 (by decide) (fun h9 => ?_) (fun h9 => ?_)
      · have hf := itt h9 hf
        cases hf
        have hf := hk3
        exact J37 p2_3 H locs ls hf hP hD hS (lv_sub hl [] rfl)
      · have hf := itf h9 hf
        refine lv_aload_n hx hb dX10_copy_11 rfl (lv_at hl 2 rfl) ?_
        refine lv_sipush (v := 130) hx hb dX10_copy_12 (by decide) ?_
        refine lv_iload_n hx hb dX10_copy_15 rfl (lv_at hl 3 rfl) ?_
        refine lv_imul hx hb dX10_copy_16 ?_
        refine lv_iload hx hb dX10_copy_17 (lv_at hl 4 rfl) ?_
        refine lv_iadd hx hb dX10_copy_19 ?_
        refine lv_aload_n hx hb dX10_copy_20 rfl (lv_at hl 0 rfl) ?_
        refine lv_sipush (v := 130) hx hb dX10_copy_21 (by decide) ?_
        refine lv_iload_n hx hb dX10_copy_24 rfl (lv_at hl 1 rfl) ?_
        refine lv_imul hx hb dX10_copy_25 ?_
        refine lv_iload hx hb dX10_copy_26 (lv_at hl 4 rfl) ?_
        refine lv_iadd hx hb dX10_copy_28 ?_
        obtain ⟨h9, hf⟩ := gd_s hf
        refine va_lald hx hb hE.1 hP 0 1 rfl rfl h9 dX10_copy_29 ?_
        obtain ⟨h9, hf⟩ := gd_s hf
        refine va_last hx hb hE.1 hP hD hS 1 1 rfl rfl h9 dX10_copy_30 (fun H locs hP hD hS => ?_)
        obtain ⟨g30, h9⟩ : ∃ z, z = (vp_updL p2_3 (((130 : Int32) * v3) + v4_3).toNatClampNeg (p0 (((130 : Int32) * v1) + v4_3).toNatClampNeg)) := ⟨_, rfl⟩
        have hf := lb_e h9 hf
        have hP : va_P (dC, dI) vwCl [(a_p0, .inl (cJ, n_p0, .inr (.inl p0))), (a_p2, .inl (cJ, n_p2, .inr (.inl g30)))] H := by rw [h9]; exact hP
        have hD : va_D A [(a_p0, .inl (cJ, n_p0, .inr (.inl p0))), (a_p2, .inl (cJ, n_p2, .inr (.inl g30)))] := by rw [h9]; exact hD
        obtain ⟨t31, h9⟩ : ∃ z : Int32, z = (v4_3 + (1 : Int32)) := ⟨_, rfl⟩
        have hf := lb_e h9 hf
        refine lv_iinc (v := t31) (lv' := [(4, .int t31), (0, .ref a_p0), (1, .int v1), (2, .ref a_p2), (3, .int v3)]) hx hb dX10_copy_31 hl (k := 4) rfl (by rw [h9]; rfl) (by decide) rfl (fun ls hl => ?_)
        refine lv_goto (tgt := 3) hx hb dX10_copy_34 (by decide) ?_
        exact ih3 t31 g30 ex3 H locs ls hf hk3 hP hD hS (lv_sub hl [1, 2, 3, 4, 0] rfl)
  obtain ⟨ex, h9, hf⟩ := ob_s hf
  exact K3 FU (0 : Int32) p2 ex H locs ls h9 hf hP hD hS (lv_sub hl [1, 2, 3, 4, 0] rfl)
def p10_copyS_J37 (p0_37 : Nat → Int64) : Option ((Nat → Int64)) := some p0_37
def p10_copyS_L3_B (n_p0 : Nat) (v1 : Int32) (v3 : Int32) (k3 : Int32 → (Nat → Int64) → Option ((Nat → Int64))) (v4_3 : Int32) (p0_3 : Nat → Int64) : Option ((Nat → Int64)) := (if (130 : Int32) ≤ v4_3 then some p0_3 else gd (((130 : Int32) * v1) + v4_3) n_p0 (gd (((130 : Int32) * v3) + v4_3) n_p0 (lb (vp_updL p0_3 (((130 : Int32) * v3) + v4_3).toNatClampNeg (p0_3 (((130 : Int32) * v1) + v4_3).toNatClampNeg)) (fun g30 => lb (v4_3 + (1 : Int32)) (fun t31 => (k3 t31 g30))))))
def p10_copyS_L3 (n_p0 : Nat) (v1 : Int32) (v3 : Int32) : Nat → Int32 → (Nat → Int64) → Option ((Nat → Int64))
  | 0, _, _ => none
  | n+1, v4_3, p0_3 => p10_copyS_L3_B n_p0 v1 v3 (p10_copyS_L3 n_p0 v1 v3 n) v4_3 p0_3
def p10_copyS (n_p0 : Nat) (p0 : Nat → Int64) (v1 : Int32) (v3 : Int32) : Option ((Nat → Int64)) := (ob (p10_copyS_L3 n_p0 v1 v3 FU (0 : Int32) p0) (fun p0_x3 => p10_copyS_J37 p0_x3))
set_option maxHeartbeats 4000000 in
set_option maxRecDepth 100000 in
theorem c_X10_copyS (a_p0 : Nat) (p0 : Nat → Int64) (n_p0 : Nat) (hn_p0 : n_p0 < 2147483648) (v1 : Int32) (v3 : Int32) (p0_9 : Nat → Int64) (hf : p10_copyS n_p0 p0 v1 v3 = some p0_9) : gM l dC dI cI cJ cZ yX10_copy cX10_copy 5 none (0) (0) [.ref a_p0, .int v1, .ref a_p0, .int v3] [(a_p0, .inl (cJ, n_p0, .inr (.inl p0)))] [(a_p0, .inl (cJ, n_p0, .inr (.inl p0_9)))] none := by
  refine g_start (own := RX10) (by decide +kernel) rfl (Nat.le_of_ble_eq_true rfl) ?_
  intro p e s m below meth c A ls S hr hlocks hE hP hD hS hA hl hin
  have hx := S.1
  have hb := S.2.1
  have hml := S.2.2.1
  have hown := S.2.2.2.1
  have htg : ∀ z ∈ gw, z.before ([.ref a_p0, .int v1, .ref a_p0, .int v3] : List Value).toArray s = true := fun w h => S.2.2.2.2 w (List.mem_cons_of_mem _ h)
  have hl : lv_has ls 5 [(0, .ref a_p0), (1, .int v1), (2, .ref a_p0), (3, .int v3)] := hl
  have hS0 := hS
  obtain ⟨H, hH⟩ : ∃ H, H = s.heap := ⟨_, rfl⟩
  obtain ⟨locs, hlc⟩ : ∃ locs : List Loc, locs = [] := ⟨_, rfl⟩
  have hS : va_S A s.heap H locs := by rw [hH, hlc]; exact hS0
  have hP : va_P (dC, dI) vwCl [(a_p0, .inl (cJ, n_p0, .inr (.inl p0)))] H := by rw [hH]; exact hP
  suffices hgo : W p l e ({ frames := 0, cells := 0, slots := 0, locals := 0 }) s m ([.ref a_p0, .int v1, .ref a_p0, .int v3] : List Value).toArray below meth c H locs 0 0 (MQ below (gQ dC dI none A [(a_p0, .inl (cJ, n_p0, .inr (.inl p0_9)))]) ([.ref a_p0, .int v1, .ref a_p0, .int v3] : List Value).toArray s 0 0 A) (F0 m 0 ls []) by rw [hH, hlc] at hgo; exact hgo
  rw [p10_copyS] at hf
  have J37 : ∀ (p0_37 : Nat → Int64) (H : Heap) (locs : List Loc) (ls : Array Slot), p10_copyS_J37 p0_37 = some p0_9 → va_P (dC, dI) vwCl [(a_p0, .inl (cJ, n_p0, .inr (.inl p0_37)))] H → va_D A [(a_p0, .inl (cJ, n_p0, .inr (.inl p0_37)))] → va_S A s.heap H locs → lv_has ls 5 [] → W p l e ({ frames := 0, cells := 0, slots := 0, locals := 0 }) s m ([.ref a_p0, .int v1, .ref a_p0, .int v3] : List Value).toArray below meth c H locs 0 0 (MQ below (gQ dC dI none A [(a_p0, .inl (cJ, n_p0, .inr (.inl p0_9)))]) ([.ref a_p0, .int v1, .ref a_p0, .int v3] : List Value).toArray s 0 0 A) (F0 m 37 ls []) := by
    intro p0_37 H locs ls hf hP hD hS hl
    rw [p10_copyS_J37] at hf
    cases hf
    exact g_vret S hr hlocks hP hD hS dX10_copy_37
  refine lv_iconst (v := 0) hx hb dX10_copy_0 (by decide) ?_
  refine lv_istore (lv' := [(4, .int (0 : Int32)), (0, .ref a_p0), (1, .int v1), (2, .ref a_p0), (3, .int v3)]) hx hb dX10_copy_1 hl (by decide) rfl (fun ls hl => ?_)
  have K3 : ∀ (n3 : Nat) (v4_3 : Int32) (p0_3 : Nat → Int64) (ex3 : (Nat → Int64)) (H : Heap) (locs : List Loc) (ls : Array Slot), p10_copyS_L3 n_p0 v1 v3 n3 v4_3 p0_3 = some ex3 → (fun p0_x3 => p10_copyS_J37 p0_x3) ex3 = some p0_9 → va_P (dC, dI) vwCl [(a_p0, .inl (cJ, n_p0, .inr (.inl p0_3)))] H → va_D A [(a_p0, .inl (cJ, n_p0, .inr (.inl p0_3)))] → va_S A s.heap H locs → lv_has ls 5 [(0, .ref a_p0), (1, .int v1), (2, .ref a_p0), (3, .int v3), (4, .int v4_3)] → W p l e ({ frames := 0, cells := 0, slots := 0, locals := 0 }) s m ([.ref a_p0, .int v1, .ref a_p0, .int v3] : List Value).toArray below meth c H locs 0 0 (MQ below (gQ dC dI none A [(a_p0, .inl (cJ, n_p0, .inr (.inl p0_9)))]) ([.ref a_p0, .int v1, .ref a_p0, .int v3] : List Value).toArray s 0 0 A) (F0 m 3 ls []) := by
    intro n3
    induction n3 with
    | zero => intro v4_3 p0_3 ex3 H locs ls hf; rw [p10_copyS_L3] at hf; cases hf
    | succ n3 ih3 =>
      intro v4_3 p0_3 ex3 H locs ls hf hk3 hP hD hS hl
      rw [p10_copyS_L3, p10_copyS_L3_B] at hf
      refine lv_iload hx hb dX10_copy_3 (lv_at hl 4 rfl) ?_
      refine lv_sipush (v := 130) hx hb dX10_copy_5 (by decide) ?_
      refine lv_icmp_ge (tgt := 37) hx hb dX10_copy_8 (by decide) (fun h9 => ?_) (fun h9 => ?_)
      · have hf := itt h9 hf
        cases hf
        have hf := hk3
        exact J37 p0_3 H locs ls hf hP hD hS (lv_sub hl [] rfl)
      · have hf := itf h9 hf
        refine lv_aload_n hx hb dX10_copy_11 rfl (lv_at hl 2 rfl) ?_
        refine lv_sipush (v := 130) hx hb dX10_copy_12 (by decide) ?_
        refine lv_iload_n hx hb dX10_copy_15 rfl (lv_at hl 3 rfl) ?_
        refine lv_imul hx hb dX10_copy_16 ?_
        refine lv_iload hx hb dX10_copy_17 (lv_at hl 4 rfl) ?_
        refine lv_iadd hx hb dX10_copy_19 ?_
        refine lv_aload_n hx hb dX10_copy_20 rfl (lv_at hl 0 rfl) ?_
        refine lv_sipush (v := 130) hx hb dX10_copy_21 (by decide) ?_
        refine lv_iload_n hx hb dX10_copy_24 rfl (lv_at hl 1 rfl) ?_
        refine lv_imul hx hb dX10_copy_25 ?_
        refine lv_iload hx hb dX10_copy_26 (lv_at hl 4 rfl) ?_
        refine lv_iadd hx hb dX10_copy_28 ?_
        obtain ⟨h9, hf⟩ := gd_s hf
        refine va_lald hx hb hE.1 hP 0 1 rfl rfl h9 dX10_copy_29 ?_
        obtain ⟨h9, hf⟩ := gd_s hf
        refine va_last hx hb hE.1 hP hD hS 0 1 rfl rfl h9 dX10_copy_30 (fun H locs hP hD hS => ?_)
        obtain ⟨g30, h9⟩ : ∃ z, z = (vp_updL p0_3 (((130 : Int32) * v3) + v4_3).toNatClampNeg (p0_3 (((130 : Int32) * v1) + v4_3).toNatClampNeg)) := ⟨_, rfl⟩
        have hf := lb_e h9 hf
        have hP : va_P (dC, dI) vwCl [(a_p0, .inl (cJ, n_p0, .inr (.inl g30)))] H := by rw [h9]; exact hP
        have hD : va_D A [(a_p0, .inl (cJ, n_p0, .inr (.inl g30)))] := by rw [h9]; exact hD
        obtain ⟨t31, h9⟩ : ∃ z : Int32, z = (v4_3 + (1 : Int32)) := ⟨_, rfl⟩
        have hf := lb_e h9 hf
        refine lv_iinc (v := t31) (lv' := [(4, .int t31), (0, .ref a_p0), (1, .int v1), (2, .ref a_p0), (3, .int v3)]) hx hb dX10_copy_31 hl (k := 4) rfl (by rw [h9]; rfl) (by decide) rfl (fun ls hl => ?_)
        refine lv_goto (tgt := 3) hx hb dX10_copy_34 (by decide) ?_
        exact ih3 t31 g30 ex3 H locs ls hf hk3 hP hD hS (lv_sub hl [1, 2, 3, 4, 0] rfl)
  obtain ⟨ex, h9, hf⟩ := ob_s hf
  exact K3 FU (0 : Int32) p0 ex H locs ls h9 hf hP hD hS (lv_sub hl [1, 2, 3, 4, 0] rfl)
def p10_record_J48 (m_now : Nat → Int64) (m_undoCount_48 : Int32) (m_history_48 : Nat → Int64) : Option ((Nat → Int64) × Int32) := ob (p10_copy 130 1300 m_now m_history_48 (0 : Int32) m_undoCount_48) (fun m_history_61 => lb (m_undoCount_48 + (1 : Int32)) (fun t71 => some (m_history_61, t71)))
def p10_record_J38 (m_now : Nat → Int64) (m_undoCount : Int32) (m_history_38 : Nat → Int64) : Option ((Nat → Int64) × Int32) := lb (m_undoCount - (1 : Int32)) (fun t45 => (p10_record_J48 m_now t45 m_history_38))
def p10_record_L11_B  (k11 : Int32 → (Nat → Int64) → Option ((Nat → Int64))) (v1_11 : Int32) (m_history_11 : Nat → Int64) : Option ((Nat → Int64)) := (if (10 : Int32) ≤ v1_11 then some m_history_11 else ob (p10_copyS 1300 m_history_11 v1_11 (v1_11 - (1 : Int32))) (fun m_history_29 => lb (v1_11 + (1 : Int32)) (fun t32 => (k11 t32 m_history_29))))
def p10_record_L11  : Nat → Int32 → (Nat → Int64) → Option ((Nat → Int64))
  | 0, _, _ => none
  | n+1, v1_11, m_history_11 => p10_record_L11_B  (p10_record_L11  n) v1_11 m_history_11
def p10_record (m_undoCount : Int32) (m_history : Nat → Int64) (m_now : Nat → Int64) : Option ((Nat → Int64) × Int32) := (if m_undoCount = (10 : Int32) then (ob (p10_record_L11 FU (1 : Int32) m_history) (fun m_history_x11 => p10_record_J38 m_now m_undoCount m_history_x11)) else (p10_record_J48 m_now m_undoCount m_history))
set_option maxHeartbeats 4000000 in
set_option maxRecDepth 100000 in
theorem c_X10_record (ad : Nat → Nat) (m_undoCount : Int32) (m_thrown : Int32) (m_hasSnapshot : Bool) (m_rows : Int32) (m_lineLength : Int32) (m_formattedLength : Int32) (m_bufferLength : Int32) (m_limit : Int32) (m_next : Int32) (m_beginsAt : Int32) (m_token : Int32) (m_error : Int32) (m_errorAt : Int32) (m_errorPosition : Int32) (m_nested : Int32) (m_codeCount : Int32) (m_history : Nat → Int64) (m_now : Nat → Int64) (m_history_9 : Nat → Int64) (m_undoCount_9 : Int32) (hf : p10_record m_undoCount m_history m_now = some (m_history_9, m_undoCount_9)) : gM l dC dI cI cJ cZ yX10_record cX10_record 2 none (1) (24) [.ref (ad 0)] [(ad 0, .inr (10, oM ad m_undoCount m_thrown m_hasSnapshot (ad 1) m_rows m_lineLength m_formattedLength m_bufferLength m_limit m_next m_beginsAt m_token m_error m_errorAt m_errorPosition m_nested m_codeCount)), ((ad 4), .inl (cJ, 1300, .inr (.inl m_history))), ((ad 1), .inl (cJ, 130, .inr (.inl m_now)))] [(ad 0, .inr (10, oM ad m_undoCount_9 m_thrown m_hasSnapshot (ad 1) m_rows m_lineLength m_formattedLength m_bufferLength m_limit m_next m_beginsAt m_token m_error m_errorAt m_errorPosition m_nested m_codeCount)), ((ad 4), .inl (cJ, 1300, .inr (.inl m_history_9))), ((ad 1), .inl (cJ, 130, .inr (.inl m_now)))] none := by
  refine g_start (own := RX10) (by decide +kernel) rfl (Nat.le_of_ble_eq_true rfl) ?_
  intro p e s m below meth c A ls S hr hlocks hE hP hD hS hA hl hin
  have hx := S.1
  have hb := S.2.1
  have hml := S.2.2.1
  have hown := S.2.2.2.1
  have htg : ∀ z ∈ gw, z.before ([.ref (ad 0)] : List Value).toArray s = true := fun w h => S.2.2.2.2 w (List.mem_cons_of_mem _ h)
  have hl : lv_has ls 2 [(0, .ref (ad 0))] := hl
  have hS0 := hS
  obtain ⟨H, hH⟩ : ∃ H, H = s.heap := ⟨_, rfl⟩
  obtain ⟨locs, hlc⟩ : ∃ locs : List Loc, locs = [] := ⟨_, rfl⟩
  have hS : va_S A s.heap H locs := by rw [hH, hlc]; exact hS0
  have hP : va_P (dC, dI) vwCl [(ad 0, .inr (10, oM ad m_undoCount m_thrown m_hasSnapshot (ad 1) m_rows m_lineLength m_formattedLength m_bufferLength m_limit m_next m_beginsAt m_token m_error m_errorAt m_errorPosition m_nested m_codeCount)), ((ad 4), .inl (cJ, 1300, .inr (.inl m_history))), ((ad 1), .inl (cJ, 130, .inr (.inl m_now)))] H := by rw [hH]; exact hP
  suffices hgo : W p l e ({ frames := 1, cells := 0, slots := 0, locals := 24 }) s m ([.ref (ad 0)] : List Value).toArray below meth c H locs 0 0 (MQ below (gQ dC dI none A [(ad 0, .inr (10, oM ad m_undoCount_9 m_thrown m_hasSnapshot (ad 1) m_rows m_lineLength m_formattedLength m_bufferLength m_limit m_next m_beginsAt m_token m_error m_errorAt m_errorPosition m_nested m_codeCount)), ((ad 4), .inl (cJ, 1300, .inr (.inl m_history_9))), ((ad 1), .inl (cJ, 130, .inr (.inl m_now)))]) ([.ref (ad 0)] : List Value).toArray s 0 0 A) (F0 m 0 ls []) by rw [hH, hlc] at hgo; exact hgo
  rw [p10_record] at hf
  have J48 : ∀ (m_undoCount_48 : Int32) (m_history_48 : Nat → Int64) (H : Heap) (locs : List Loc) (ls : Array Slot), p10_record_J48 m_now m_undoCount_48 m_history_48 = some (m_history_9, m_undoCount_9) → va_P (dC, dI) vwCl [(ad 0, .inr (10, oM ad m_undoCount_48 m_thrown m_hasSnapshot (ad 1) m_rows m_lineLength m_formattedLength m_bufferLength m_limit m_next m_beginsAt m_token m_error m_errorAt m_errorPosition m_nested m_codeCount)), ((ad 4), .inl (cJ, 1300, .inr (.inl m_history_48))), ((ad 1), .inl (cJ, 130, .inr (.inl m_now)))] H → va_D A [(ad 0, .inr (10, oM ad m_undoCount_48 m_thrown m_hasSnapshot (ad 1) m_rows m_lineLength m_formattedLength m_bufferLength m_limit m_next m_beginsAt m_token m_error m_errorAt m_errorPosition m_nested m_codeCount)), ((ad 4), .inl (cJ, 1300, .inr (.inl m_history_48))), ((ad 1), .inl (cJ, 130, .inr (.inl m_now)))] → va_S A s.heap H locs → lv_has ls 2 [(0, .ref (ad 0))] → W p l e ({ frames := 1, cells := 0, slots := 0, locals := 24 }) s m ([.ref (ad 0)] : List Value).toArray below meth c H locs 0 0 (MQ below (gQ dC dI none A [(ad 0, .inr (10, oM ad m_undoCount_9 m_thrown m_hasSnapshot (ad 1) m_rows m_lineLength m_formattedLength m_bufferLength m_limit m_next m_beginsAt m_token m_error m_errorAt m_errorPosition m_nested m_codeCount)), ((ad 4), .inl (cJ, 1300, .inr (.inl m_history_9))), ((ad 1), .inl (cJ, 130, .inr (.inl m_now)))]) ([.ref (ad 0)] : List Value).toArray s 0 0 A) (F0 m 48 ls []) := by
    intro m_undoCount_48 m_history_48 H locs ls hf hP hD hS hl
    rw [p10_record_J48] at hf
    refine lv_aload_n hx hb dX10_record_48 rfl (lv_at hl 0 rfl) ?_
    refine va_get (D := (dC, dI)) (ci := 10) (v := .ref (ad 1)) (C := RX10) (T := TX10) (N := 37) hx hb htg inX10 hown hE.1 hP 0 rfl rfl 0 (by decide) (htg _ tw1382) (fun _ h9 => h9) rfl dX10_record_49 ?_
    refine lv_iconst (v := 0) hx hb dX10_record_52 (by decide) ?_
    refine lv_aload_n hx hb dX10_record_53 rfl (lv_at hl 0 rfl) ?_
    refine va_get (D := (dC, dI)) (ci := 10) (v := .ref (ad 4)) (C := RX10) (T := TX10) (N := 37) hx hb htg inX10 hown hE.1 hP 0 rfl rfl 3 (by decide) (htg _ tw1385) (fun _ h9 => h9) rfl dX10_record_54 ?_
    refine lv_aload_n hx hb dX10_record_57 rfl (lv_at hl 0 rfl) ?_
    refine va_get (D := (dC, dI)) (ci := 10) (v := .int m_undoCount_48) (C := RX10) (T := TX10) (N := 37) hx hb htg inX10 hown hE.1 hP 0 rfl rfl 4 (by decide) (htg _ tw1386) (fun _ h9 => h9) rfl dX10_record_58 ?_
    obtain ⟨m_history_61, h9, hf⟩ := ob_s hf
    refine gcS (index := 357) S hE (c_X10_copy (ad 1) (ad 4) m_now m_history_48 130 (Nat.le_of_ble_eq_true rfl) 1300 (Nat.le_of_ble_eq_true rfl) (0 : Int32) m_undoCount_48 m_history_61 h9) mX10_copy tw1850 ⟨Nat.le_of_ble_eq_true rfl, Nat.le_of_ble_eq_true rfl⟩ hP hD hS hA ⟨Nat.zero_le _, Nat.zero_le _⟩ (wr := [(ad 0, .inr (10, oM ad m_undoCount_48 m_thrown m_hasSnapshot (ad 1) m_rows m_lineLength m_formattedLength m_bufferLength m_limit m_next m_beginsAt m_token m_error m_errorAt m_errorPosition m_nested m_codeCount))]) [2, 1] [0] rfl rfl rfl rfl (by decide) (As := [.ref (ad 1), .int (0 : Int32), .ref (ad 4), .int m_undoCount_48]) (rest := []) rfl hl.1 rfl (Nat.le_of_ble_eq_true rfl) dX10_record_61 (fun H locs hP hD hS => ?_)
    refine W.eq (g2 := F0 m 64 ls []) rfl ?_
    have hP : va_P (dC, dI) vwCl [(ad 0, .inr (10, oM ad m_undoCount_48 m_thrown m_hasSnapshot (ad 1) m_rows m_lineLength m_formattedLength m_bufferLength m_limit m_next m_beginsAt m_token m_error m_errorAt m_errorPosition m_nested m_codeCount)), ((ad 1), .inl (cJ, 130, .inr (.inl m_now))), ((ad 4), .inl (cJ, 1300, .inr (.inl m_history_61)))] H := hP
    have hD : va_D A [(ad 0, .inr (10, oM ad m_undoCount_48 m_thrown m_hasSnapshot (ad 1) m_rows m_lineLength m_formattedLength m_bufferLength m_limit m_next m_beginsAt m_token m_error m_errorAt m_errorPosition m_nested m_codeCount)), ((ad 1), .inl (cJ, 130, .inr (.inl m_now))), ((ad 4), .inl (cJ, 1300, .inr (.inl m_history_61)))] := hD
    refine lv_aload_n hx hb dX10_record_64 rfl (lv_at hl 0 rfl) ?_
    refine lv_dup hx hb dX10_record_65 rfl ?_
    refine va_get (D := (dC, dI)) (ci := 10) (v := .int m_undoCount_48) (C := RX10) (T := TX10) (N := 37) hx hb htg inX10 hown hE.1 hP 0 rfl rfl 4 (by decide) (htg _ tw1386) (fun _ h9 => h9) rfl dX10_record_66 ?_
    refine lv_iconst (v := 1) hx hb dX10_record_69 (by decide) ?_
    refine lv_iadd hx hb dX10_record_70 ?_
    refine lv_topi (fun t71 h9 => ?_)
    have hf := lb_e h9 hf
    refine va_put (D := (dC, dI)) (ci := 10) (v := .int t71) (ty := .int) (C := RX10) (T := TX10) (N := 37) hx hb htg inX10 tyX10 tyX10_ok nmX10 hown hE.1 hP hD hS 0 rfl rfl 4 (by decide) (htg _ tw1386) (fun _ h9 => h9) rfl (by decide +kernel) rfl rfl (Nat.le_of_ble_eq_true rfl) dX10_record_71 (fun H locs hP hD hS => ?_)
    have hP : va_P (dC, dI) vwCl [(ad 0, .inr (10, oM ad t71 m_thrown m_hasSnapshot (ad 1) m_rows m_lineLength m_formattedLength m_bufferLength m_limit m_next m_beginsAt m_token m_error m_errorAt m_errorPosition m_nested m_codeCount)), ((ad 1), .inl (cJ, 130, .inr (.inl m_now))), ((ad 4), .inl (cJ, 1300, .inr (.inl m_history_61)))] H := hP
    have hD : va_D A [(ad 0, .inr (10, oM ad t71 m_thrown m_hasSnapshot (ad 1) m_rows m_lineLength m_formattedLength m_bufferLength m_limit m_next m_beginsAt m_token m_error m_errorAt m_errorPosition m_nested m_codeCount)), ((ad 1), .inl (cJ, 130, .inr (.inl m_now))), ((ad 4), .inl (cJ, 1300, .inr (.inl m_history_61)))] := hD
    cases hf
    exact g_vret S hr hlocks (hP.sub [0, 2, 1] rfl) (hD.sub [0, 2, 1] (by decide) rfl) hS dX10_record_74
  have J38 : ∀ (m_history_38 : Nat → Int64) (H : Heap) (locs : List Loc) (ls : Array Slot), p10_record_J38 m_now m_undoCount m_history_38 = some (m_history_9, m_undoCount_9) → va_P (dC, dI) vwCl [(ad 0, .inr (10, oM ad m_undoCount m_thrown m_hasSnapshot (ad 1) m_rows m_lineLength m_formattedLength m_bufferLength m_limit m_next m_beginsAt m_token m_error m_errorAt m_errorPosition m_nested m_codeCount)), ((ad 4), .inl (cJ, 1300, .inr (.inl m_history_38))), ((ad 1), .inl (cJ, 130, .inr (.inl m_now)))] H → va_D A [(ad 0, .inr (10, oM ad m_undoCount m_thrown m_hasSnapshot (ad 1) m_rows m_lineLength m_formattedLength m_bufferLength m_limit m_next m_beginsAt m_token m_error m_errorAt m_errorPosition m_nested m_codeCount)), ((ad 4), .inl (cJ, 1300, .inr (.inl m_history_38))), ((ad 1), .inl (cJ, 130, .inr (.inl m_now)))] → va_S A s.heap H locs → lv_has ls 2 [(0, .ref (ad 0))] → W p l e ({ frames := 1, cells := 0, slots := 0, locals := 24 }) s m ([.ref (ad 0)] : List Value).toArray below meth c H locs 0 0 (MQ below (gQ dC dI none A [(ad 0, .inr (10, oM ad m_undoCount_9 m_thrown m_hasSnapshot (ad 1) m_rows m_lineLength m_formattedLength m_bufferLength m_limit m_next m_beginsAt m_token m_error m_errorAt m_errorPosition m_nested m_codeCount)), ((ad 4), .inl (cJ, 1300, .inr (.inl m_history_9))), ((ad 1), .inl (cJ, 130, .inr (.inl m_now)))]) ([.ref (ad 0)] : List Value).toArray s 0 0 A) (F0 m 38 ls []) := by
    intro m_history_38 H locs ls hf hP hD hS hl
    rw [p10_record_J38] at hf
    refine lv_aload_n hx hb dX10_record_38 rfl (lv_at hl 0 rfl) ?_
    refine lv_dup hx hb dX10_record_39 rfl ?_
    refine va_get (D := (dC, dI)) (ci := 10) (v := .int m_undoCount) (C := RX10) (T := TX10) (N := 37) hx hb htg inX10 hown hE.1 hP 0 rfl rfl 4 (by decide) (htg _ tw1386) (fun _ h9 => h9) rfl dX10_record_40 ?_
    refine lv_iconst (v := 1) hx hb dX10_record_43 (by decide) ?_
    refine lv_isub hx hb dX10_record_44 ?_
    refine lv_topi (fun t45 h9 => ?_)
    have hf := lb_e h9 hf
    refine va_put (D := (dC, dI)) (ci := 10) (v := .int t45) (ty := .int) (C := RX10) (T := TX10) (N := 37) hx hb htg inX10 tyX10 tyX10_ok nmX10 hown hE.1 hP hD hS 0 rfl rfl 4 (by decide) (htg _ tw1386) (fun _ h9 => h9) rfl (by decide +kernel) rfl rfl (Nat.le_of_ble_eq_true rfl) dX10_record_45 (fun H locs hP hD hS => ?_)
    have hP : va_P (dC, dI) vwCl [(ad 0, .inr (10, oM ad t45 m_thrown m_hasSnapshot (ad 1) m_rows m_lineLength m_formattedLength m_bufferLength m_limit m_next m_beginsAt m_token m_error m_errorAt m_errorPosition m_nested m_codeCount)), ((ad 4), .inl (cJ, 1300, .inr (.inl m_history_38))), ((ad 1), .inl (cJ, 130, .inr (.inl m_now)))] H := hP
    have hD : va_D A [(ad 0, .inr (10, oM ad t45 m_thrown m_hasSnapshot (ad 1) m_rows m_lineLength m_formattedLength m_bufferLength m_limit m_next m_beginsAt m_token m_error m_errorAt m_errorPosition m_nested m_codeCount)), ((ad 4), .inl (cJ, 1300, .inr (.inl m_history_38))), ((ad 1), .inl (cJ, 130, .inr (.inl m_now)))] := hD
    exact J48 t45 m_history_38 H locs ls hf hP hD hS (lv_sub hl [0] rfl)
  refine lv_aload_n hx hb dX10_record_0 rfl (lv_at hl 0 rfl) ?_
  refine va_get (D := (dC, dI)) (ci := 10) (v := .int m_undoCount) (C := RX10) (T := TX10) (N := 37) hx hb htg inX10 hown hE.1 hP 0 rfl rfl 4 (by decide) (htg _ tw1386) (fun _ h9 => h9) rfl dX10_record_1 ?_
  refine lv_bipush (v := 10) hx hb dX10_record_4 (by decide) ?_
  refine lv_icmp_ne (tgt := 48) hx hb dX10_record_6 (by decide) (fun h9 => ?_) (fun h9 => ?_)
  · have hf := itf h9 hf
    exact J48 m_undoCount m_history H locs ls hf hP hD hS (lv_sub hl [0] rfl)
  · have hf := itt h9 hf
    refine lv_iconst (v := 1) hx hb dX10_record_9 (by decide) ?_
    refine lv_istore_n (lv' := [(1, .int (1 : Int32)), (0, .ref (ad 0))]) hx hb dX10_record_10 rfl hl (by decide) rfl (fun ls hl => ?_)
    have K11 : ∀ (n11 : Nat) (v1_11 : Int32) (m_history_11 : Nat → Int64) (ex11 : (Nat → Int64)) (H : Heap) (locs : List Loc) (ls : Array Slot), p10_record_L11 n11 v1_11 m_history_11 = some ex11 → (fun m_history_x11 => p10_record_J38 m_now m_undoCount m_history_x11) ex11 = some (m_history_9, m_undoCount_9) → va_P (dC, dI) vwCl [(ad 0, .inr (10, oM ad m_undoCount m_thrown m_hasSnapshot (ad 1) m_rows m_lineLength m_formattedLength m_bufferLength m_limit m_next m_beginsAt m_token m_error m_errorAt m_errorPosition m_nested m_codeCount)), ((ad 4), .inl (cJ, 1300, .inr (.inl m_history_11))), ((ad 1), .inl (cJ, 130, .inr (.inl m_now)))] H → va_D A [(ad 0, .inr (10, oM ad m_undoCount m_thrown m_hasSnapshot (ad 1) m_rows m_lineLength m_formattedLength m_bufferLength m_limit m_next m_beginsAt m_token m_error m_errorAt m_errorPosition m_nested m_codeCount)), ((ad 4), .inl (cJ, 1300, .inr (.inl m_history_11))), ((ad 1), .inl (cJ, 130, .inr (.inl m_now)))] → va_S A s.heap H locs → lv_has ls 2 [(0, .ref (ad 0)), (1, .int v1_11)] → W p l e ({ frames := 1, cells := 0, slots := 0, locals := 24 }) s m ([.ref (ad 0)] : List Value).toArray below meth c H locs 0 0 (MQ below (gQ dC dI none A [(ad 0, .inr (10, oM ad m_undoCount_9 m_thrown m_hasSnapshot (ad 1) m_rows m_lineLength m_formattedLength m_bufferLength m_limit m_next m_beginsAt m_token m_error m_errorAt m_errorPosition m_nested m_codeCount)), ((ad 4), .inl (cJ, 1300, .inr (.inl m_history_9))), ((ad 1), .inl (cJ, 130, .inr (.inl m_now)))]) ([.ref (ad 0)] : List Value).toArray s 0 0 A) (F0 m 11 ls []) := by
      intro n11
      induction n11 with
      | zero => intro v1_11 m_history_11 ex11 H locs ls hf; rw [p10_record_L11] at hf; cases hf
      | succ n11 ih11 =>
        intro v1_11 m_history_11 ex11 H locs ls hf hk11 hP hD hS hl
        rw [p10_record_L11, p10_record_L11_B] at hf
        refine lv_iload_n hx hb dX10_record_11 rfl (lv_at hl 1 rfl) ?_
        refine lv_bipush (v := 10) hx hb dX10_record_12 (by decide) ?_
        refine lv_icmp_ge (tgt := 38) hx hb dX10_record_14 (by decide) (fun h9 => ?_) (fun h9 => ?_)
        · have hf := itt h9 hf
          cases hf
          have hf := hk11
          exact J38 m_history_11 H locs ls hf hP hD hS (lv_sub hl [0] rfl)
        · have hf := itf h9 hf
          refine lv_aload_n hx hb dX10_record_17 rfl (lv_at hl 0 rfl) ?_
          refine va_get (D := (dC, dI)) (ci := 10) (v := .ref (ad 4)) (C := RX10) (T := TX10) (N := 37) hx hb htg inX10 hown hE.1 hP 0 rfl rfl 3 (by decide) (htg _ tw1385) (fun _ h9 => h9) rfl dX10_record_18 ?_
          refine lv_iload_n hx hb dX10_record_21 rfl (lv_at hl 1 rfl) ?_
          refine lv_aload_n hx hb dX10_record_22 rfl (lv_at hl 0 rfl) ?_
          refine va_get (D := (dC, dI)) (ci := 10) (v := .ref (ad 4)) (C := RX10) (T := TX10) (N := 37) hx hb htg inX10 hown hE.1 hP 0 rfl rfl 3 (by decide) (htg _ tw1385) (fun _ h9 => h9) rfl dX10_record_23 ?_
          refine lv_iload_n hx hb dX10_record_26 rfl (lv_at hl 1 rfl) ?_
          refine lv_iconst (v := 1) hx hb dX10_record_27 (by decide) ?_
          refine lv_isub hx hb dX10_record_28 ?_
          obtain ⟨m_history_29, h9, hf⟩ := ob_s hf
          refine gcS (index := 357) S hE (c_X10_copyS (ad 4) m_history_11 1300 (Nat.le_of_ble_eq_true rfl) v1_11 (v1_11 - (1 : Int32)) m_history_29 h9) mX10_copy tw1850 ⟨Nat.le_of_ble_eq_true rfl, Nat.le_of_ble_eq_true rfl⟩ hP hD hS hA ⟨Nat.zero_le _, Nat.zero_le _⟩ (wr := [(ad 0, .inr (10, oM ad m_undoCount m_thrown m_hasSnapshot (ad 1) m_rows m_lineLength m_formattedLength m_bufferLength m_limit m_next m_beginsAt m_token m_error m_errorAt m_errorPosition m_nested m_codeCount)), ((ad 1), .inl (cJ, 130, .inr (.inl m_now)))]) [1] [0, 2] rfl rfl rfl rfl (by decide) (As := [.ref (ad 4), .int v1_11, .ref (ad 4), .int (v1_11 - (1 : Int32))]) (rest := []) rfl hl.1 rfl (Nat.le_of_ble_eq_true rfl) dX10_record_29 (fun H locs hP hD hS => ?_)
          refine W.eq (g2 := F0 m 32 ls []) rfl ?_
          have hP : va_P (dC, dI) vwCl [(ad 0, .inr (10, oM ad m_undoCount m_thrown m_hasSnapshot (ad 1) m_rows m_lineLength m_formattedLength m_bufferLength m_limit m_next m_beginsAt m_token m_error m_errorAt m_errorPosition m_nested m_codeCount)), ((ad 1), .inl (cJ, 130, .inr (.inl m_now))), ((ad 4), .inl (cJ, 1300, .inr (.inl m_history_29)))] H := hP
          have hD : va_D A [(ad 0, .inr (10, oM ad m_undoCount m_thrown m_hasSnapshot (ad 1) m_rows m_lineLength m_formattedLength m_bufferLength m_limit m_next m_beginsAt m_token m_error m_errorAt m_errorPosition m_nested m_codeCount)), ((ad 1), .inl (cJ, 130, .inr (.inl m_now))), ((ad 4), .inl (cJ, 1300, .inr (.inl m_history_29)))] := hD
          obtain ⟨t32, h9⟩ : ∃ z : Int32, z = (v1_11 + (1 : Int32)) := ⟨_, rfl⟩
          have hf := lb_e h9 hf
          refine lv_iinc (v := t32) (lv' := [(1, .int t32), (0, .ref (ad 0))]) hx hb dX10_record_32 hl (k := 1) rfl (by rw [h9]; rfl) (by decide) rfl (fun ls hl => ?_)
          refine lv_goto (tgt := 11) hx hb dX10_record_35 (by decide) ?_
          exact ih11 t32 m_history_29 ex11 H locs ls hf hk11 (hP.sub [0, 2, 1] rfl) (hD.sub [0, 2, 1] (by decide) rfl) hS (lv_sub hl [1, 0] rfl)
    obtain ⟨ex, h9, hf⟩ := ob_s hf
    exact K11 FU (1 : Int32) m_history ex H locs ls h9 hf hP hD hS (lv_sub hl [1, 0] rfl)
def p10_undoCount (m_undoCount : Int32) : Int32 × Int32 := (m_undoCount, (0 : Int32))
set_option maxHeartbeats 4000000 in
set_option maxRecDepth 100000 in
theorem c_X10_undoCount (ad : Nat → Nat) (a_m_fam : Nat) (m_undoCount : Int32) (m_thrown : Int32) (m_hasSnapshot : Bool) (m_rows : Int32) (m_lineLength : Int32) (m_formattedLength : Int32) (m_bufferLength : Int32) (m_limit : Int32) (m_next : Int32) (m_beginsAt : Int32) (m_token : Int32) (m_error : Int32) (m_errorAt : Int32) (m_errorPosition : Int32) (m_nested : Int32) (m_codeCount : Int32) (r9 : Int32) (m_thrown_9 : Int32) (hf : p10_undoCount m_undoCount = (r9, m_thrown_9)) : gM l dC dI cI cJ cZ yX10_undoCount cX10_undoCount 1 (some .int) (0) (0) [.ref (ad 0)] [(ad 0, .inr (10, oM ad m_undoCount m_thrown m_hasSnapshot a_m_fam m_rows m_lineLength m_formattedLength m_bufferLength m_limit m_next m_beginsAt m_token m_error m_errorAt m_errorPosition m_nested m_codeCount))] [(ad 0, .inr (10, oM ad m_undoCount m_thrown_9 m_hasSnapshot a_m_fam m_rows m_lineLength m_formattedLength m_bufferLength m_limit m_next m_beginsAt m_token m_error m_errorAt m_errorPosition m_nested m_codeCount))] (some (.int r9)) := by
  refine g_start (own := RX10) (by decide +kernel) rfl (Nat.le_of_ble_eq_true rfl) ?_
  intro p e s m below meth c A ls S hr hlocks hE hP hD hS hA hl hin
  have hx := S.1
  have hb := S.2.1
  have hml := S.2.2.1
  have hown := S.2.2.2.1
  have htg : ∀ z ∈ gw, z.before ([.ref (ad 0)] : List Value).toArray s = true := fun w h => S.2.2.2.2 w (List.mem_cons_of_mem _ h)
  have hl : lv_has ls 1 [(0, .ref (ad 0))] := hl
  have hS0 := hS
  obtain ⟨H, hH⟩ : ∃ H, H = s.heap := ⟨_, rfl⟩
  obtain ⟨locs, hlc⟩ : ∃ locs : List Loc, locs = [] := ⟨_, rfl⟩
  have hS : va_S A s.heap H locs := by rw [hH, hlc]; exact hS0
  have hP : va_P (dC, dI) vwCl [(ad 0, .inr (10, oM ad m_undoCount m_thrown m_hasSnapshot a_m_fam m_rows m_lineLength m_formattedLength m_bufferLength m_limit m_next m_beginsAt m_token m_error m_errorAt m_errorPosition m_nested m_codeCount))] H := by rw [hH]; exact hP
  suffices hgo : W p l e ({ frames := 0, cells := 0, slots := 0, locals := 0 }) s m ([.ref (ad 0)] : List Value).toArray below meth c H locs 0 0 (MQ below (gQ dC dI (some (.int r9)) A [(ad 0, .inr (10, oM ad m_undoCount m_thrown_9 m_hasSnapshot a_m_fam m_rows m_lineLength m_formattedLength m_bufferLength m_limit m_next m_beginsAt m_token m_error m_errorAt m_errorPosition m_nested m_codeCount))]) ([.ref (ad 0)] : List Value).toArray s 0 0 A) (F0 m 0 ls []) by rw [hH, hlc] at hgo; exact hgo
  rw [p10_undoCount] at hf
  refine lv_aload_n hx hb dX10_undoCount_0 rfl (lv_at hl 0 rfl) ?_
  refine lv_iconst (v := 0) hx hb dX10_undoCount_1 (by decide) ?_
  refine va_put (D := (dC, dI)) (ci := 10) (v := .int (0 : Int32)) (ty := .int) (C := RX10) (T := TX10) (N := 37) hx hb htg inX10 tyX10 tyX10_ok nmX10 hown hE.1 hP hD hS 0 rfl rfl 5 (by decide) (htg _ tw1387) (fun _ h9 => h9) rfl (by decide +kernel) rfl rfl (Nat.le_of_ble_eq_true rfl) dX10_undoCount_2 (fun H locs hP hD hS => ?_)
  have hP : va_P (dC, dI) vwCl [(ad 0, .inr (10, oM ad m_undoCount (0 : Int32) m_hasSnapshot a_m_fam m_rows m_lineLength m_formattedLength m_bufferLength m_limit m_next m_beginsAt m_token m_error m_errorAt m_errorPosition m_nested m_codeCount))] H := hP
  have hD : va_D A [(ad 0, .inr (10, oM ad m_undoCount (0 : Int32) m_hasSnapshot a_m_fam m_rows m_lineLength m_formattedLength m_bufferLength m_limit m_next m_beginsAt m_token m_error m_errorAt m_errorPosition m_nested m_codeCount))] := hD
  refine lv_aload_n hx hb dX10_undoCount_5 rfl (lv_at hl 0 rfl) ?_
  refine va_get (D := (dC, dI)) (ci := 10) (v := .int m_undoCount) (C := RX10) (T := TX10) (N := 37) hx hb htg inX10 hown hE.1 hP 0 rfl rfl 4 (by decide) (htg _ tw1386) (fun _ h9 => h9) rfl dX10_undoCount_6 ?_
  cases hf
  exact g_iret S hr hlocks hP hD hS dX10_undoCount_9
def p10_undo (m_undoCount : Int32) (m_history : Nat → Int64) (m_now : Nat → Int64) : Option (Int32 × (Nat → Int64) × Int32 × Int32) := (if m_undoCount = (0 : Int32) then some ((-1 : Int32), m_now, (0 : Int32), m_undoCount) else lb (m_undoCount - (1 : Int32)) (fun t21 => ob (p10_copy 1300 130 m_history m_now t21 (0 : Int32)) (fun m_now_37 => some (t21, m_now_37, (0 : Int32), t21))))
set_option maxHeartbeats 4000000 in
set_option maxRecDepth 100000 in
theorem c_X10_undo (ad : Nat → Nat) (m_undoCount : Int32) (m_thrown : Int32) (m_hasSnapshot : Bool) (m_rows : Int32) (m_lineLength : Int32) (m_formattedLength : Int32) (m_bufferLength : Int32) (m_limit : Int32) (m_next : Int32) (m_beginsAt : Int32) (m_token : Int32) (m_error : Int32) (m_errorAt : Int32) (m_errorPosition : Int32) (m_nested : Int32) (m_codeCount : Int32) (m_history : Nat → Int64) (m_now : Nat → Int64) (r9 : Int32) (m_now_9 : Nat → Int64) (m_thrown_9 : Int32) (m_undoCount_9 : Int32) (hf : p10_undo m_undoCount m_history m_now = some (r9, m_now_9, m_thrown_9, m_undoCount_9)) : gM l dC dI cI cJ cZ yX10_undo cX10_undo 1 (some .int) (1) (24) [.ref (ad 0)] [(ad 0, .inr (10, oM ad m_undoCount m_thrown m_hasSnapshot (ad 1) m_rows m_lineLength m_formattedLength m_bufferLength m_limit m_next m_beginsAt m_token m_error m_errorAt m_errorPosition m_nested m_codeCount)), ((ad 4), .inl (cJ, 1300, .inr (.inl m_history))), ((ad 1), .inl (cJ, 130, .inr (.inl m_now)))] [(ad 0, .inr (10, oM ad m_undoCount_9 m_thrown_9 m_hasSnapshot (ad 1) m_rows m_lineLength m_formattedLength m_bufferLength m_limit m_next m_beginsAt m_token m_error m_errorAt m_errorPosition m_nested m_codeCount)), ((ad 4), .inl (cJ, 1300, .inr (.inl m_history))), ((ad 1), .inl (cJ, 130, .inr (.inl m_now_9)))] (some (.int r9)) := by
  refine g_start (own := RX10) (by decide +kernel) rfl (Nat.le_of_ble_eq_true rfl) ?_
  intro p e s m below meth c A ls S hr hlocks hE hP hD hS hA hl hin
  have hx := S.1
  have hb := S.2.1
  have hml := S.2.2.1
  have hown := S.2.2.2.1
  have htg : ∀ z ∈ gw, z.before ([.ref (ad 0)] : List Value).toArray s = true := fun w h => S.2.2.2.2 w (List.mem_cons_of_mem _ h)
  have hl : lv_has ls 1 [(0, .ref (ad 0))] := hl
  have hS0 := hS
  obtain ⟨H, hH⟩ : ∃ H, H = s.heap := ⟨_, rfl⟩
  obtain ⟨locs, hlc⟩ : ∃ locs : List Loc, locs = [] := ⟨_, rfl⟩
  have hS : va_S A s.heap H locs := by rw [hH, hlc]; exact hS0
  have hP : va_P (dC, dI) vwCl [(ad 0, .inr (10, oM ad m_undoCount m_thrown m_hasSnapshot (ad 1) m_rows m_lineLength m_formattedLength m_bufferLength m_limit m_next m_beginsAt m_token m_error m_errorAt m_errorPosition m_nested m_codeCount)), ((ad 4), .inl (cJ, 1300, .inr (.inl m_history))), ((ad 1), .inl (cJ, 130, .inr (.inl m_now)))] H := by rw [hH]; exact hP
  suffices hgo : W p l e ({ frames := 1, cells := 0, slots := 0, locals := 24 }) s m ([.ref (ad 0)] : List Value).toArray below meth c H locs 0 0 (MQ below (gQ dC dI (some (.int r9)) A [(ad 0, .inr (10, oM ad m_undoCount_9 m_thrown_9 m_hasSnapshot (ad 1) m_rows m_lineLength m_formattedLength m_bufferLength m_limit m_next m_beginsAt m_token m_error m_errorAt m_errorPosition m_nested m_codeCount)), ((ad 4), .inl (cJ, 1300, .inr (.inl m_history))), ((ad 1), .inl (cJ, 130, .inr (.inl m_now_9)))]) ([.ref (ad 0)] : List Value).toArray s 0 0 A) (F0 m 0 ls []) by rw [hH, hlc] at hgo; exact hgo
  rw [p10_undo] at hf
  refine lv_aload_n hx hb dX10_undo_0 rfl (lv_at hl 0 rfl) ?_
  refine lv_iconst (v := 0) hx hb dX10_undo_1 (by decide) ?_
  refine va_put (D := (dC, dI)) (ci := 10) (v := .int (0 : Int32)) (ty := .int) (C := RX10) (T := TX10) (N := 37) hx hb htg inX10 tyX10 tyX10_ok nmX10 hown hE.1 hP hD hS 0 rfl rfl 5 (by decide) (htg _ tw1387) (fun _ h9 => h9) rfl (by decide +kernel) rfl rfl (Nat.le_of_ble_eq_true rfl) dX10_undo_2 (fun H locs hP hD hS => ?_)
  have hP : va_P (dC, dI) vwCl [(ad 0, .inr (10, oM ad m_undoCount (0 : Int32) m_hasSnapshot (ad 1) m_rows m_lineLength m_formattedLength m_bufferLength m_limit m_next m_beginsAt m_token m_error m_errorAt m_errorPosition m_nested m_codeCount)), ((ad 4), .inl (cJ, 1300, .inr (.inl m_history))), ((ad 1), .inl (cJ, 130, .inr (.inl m_now)))] H := hP
  have hD : va_D A [(ad 0, .inr (10, oM ad m_undoCount (0 : Int32) m_hasSnapshot (ad 1) m_rows m_lineLength m_formattedLength m_bufferLength m_limit m_next m_beginsAt m_token m_error m_errorAt m_errorPosition m_nested m_codeCount)), ((ad 4), .inl (cJ, 1300, .inr (.inl m_history))), ((ad 1), .inl (cJ, 130, .inr (.inl m_now)))] := hD
  refine lv_aload_n hx hb dX10_undo_5 rfl (lv_at hl 0 rfl) ?_
  refine va_get (D := (dC, dI)) (ci := 10) (v := .int m_undoCount) (C := RX10) (T := TX10) (N := 37) hx hb htg inX10 hown hE.1 hP 0 rfl rfl 4 (by decide) (htg _ tw1386) (fun _ h9 => h9) rfl dX10_undo_6 ?_
  refine lv_if_ne (tgt := 14) hx hb dX10_undo_9 (by decide) (fun h9 => ?_) (fun h9 => ?_)
  · have hf := itf h9 hf
    refine lv_aload_n hx hb dX10_undo_14 rfl (lv_at hl 0 rfl) ?_
    refine lv_dup hx hb dX10_undo_15 rfl ?_
    refine va_get (D := (dC, dI)) (ci := 10) (v := .int m_undoCount) (C := RX10) (T := TX10) (N := 37) hx hb htg inX10 hown hE.1 hP 0 rfl rfl 4 (by decide) (htg _ tw1386) (fun _ h9 => h9) rfl dX10_undo_16 ?_
    refine lv_iconst (v := 1) hx hb dX10_undo_19 (by decide) ?_
    refine lv_isub hx hb dX10_undo_20 ?_
    refine lv_topi (fun t21 h9 => ?_)
    have hf := lb_e h9 hf
    refine va_put (D := (dC, dI)) (ci := 10) (v := .int t21) (ty := .int) (C := RX10) (T := TX10) (N := 37) hx hb htg inX10 tyX10 tyX10_ok nmX10 hown hE.1 hP hD hS 0 rfl rfl 4 (by decide) (htg _ tw1386) (fun _ h9 => h9) rfl (by decide +kernel) rfl rfl (Nat.le_of_ble_eq_true rfl) dX10_undo_21 (fun H locs hP hD hS => ?_)
    have hP : va_P (dC, dI) vwCl [(ad 0, .inr (10, oM ad t21 (0 : Int32) m_hasSnapshot (ad 1) m_rows m_lineLength m_formattedLength m_bufferLength m_limit m_next m_beginsAt m_token m_error m_errorAt m_errorPosition m_nested m_codeCount)), ((ad 4), .inl (cJ, 1300, .inr (.inl m_history))), ((ad 1), .inl (cJ, 130, .inr (.inl m_now)))] H := hP
    have hD : va_D A [(ad 0, .inr (10, oM ad t21 (0 : Int32) m_hasSnapshot (ad 1) m_rows m_lineLength m_formattedLength m_bufferLength m_limit m_next m_beginsAt m_token m_error m_errorAt m_errorPosition m_nested m_codeCount)), ((ad 4), .inl (cJ, 1300, .inr (.inl m_history))), ((ad 1), .inl (cJ, 130, .inr (.inl m_now)))] := hD
    refine lv_aload_n hx hb dX10_undo_24 rfl (lv_at hl 0 rfl) ?_
    refine va_get (D := (dC, dI)) (ci := 10) (v := .ref (ad 4)) (C := RX10) (T := TX10) (N := 37) hx hb htg inX10 hown hE.1 hP 0 rfl rfl 3 (by decide) (htg _ tw1385) (fun _ h9 => h9) rfl dX10_undo_25 ?_
    refine lv_aload_n hx hb dX10_undo_28 rfl (lv_at hl 0 rfl) ?_
    refine va_get (D := (dC, dI)) (ci := 10) (v := .int t21) (C := RX10) (T := TX10) (N := 37) hx hb htg inX10 hown hE.1 hP 0 rfl rfl 4 (by decide) (htg _ tw1386) (fun _ h9 => h9) rfl dX10_undo_29 ?_
    refine lv_aload_n hx hb dX10_undo_32 rfl (lv_at hl 0 rfl) ?_
    refine va_get (D := (dC, dI)) (ci := 10) (v := .ref (ad 1)) (C := RX10) (T := TX10) (N := 37) hx hb htg inX10 hown hE.1 hP 0 rfl rfl 0 (by decide) (htg _ tw1382) (fun _ h9 => h9) rfl dX10_undo_33 ?_
    refine lv_iconst (v := 0) hx hb dX10_undo_36 (by decide) ?_
    obtain ⟨m_now_37, h9, hf⟩ := ob_s hf
    refine gcS (index := 357) S hE (c_X10_copy (ad 4) (ad 1) m_history m_now 1300 (Nat.le_of_ble_eq_true rfl) 130 (Nat.le_of_ble_eq_true rfl) t21 (0 : Int32) m_now_37 h9) mX10_copy tw1850 ⟨Nat.le_of_ble_eq_true rfl, Nat.le_of_ble_eq_true rfl⟩ hP hD hS hA ⟨Nat.zero_le _, Nat.zero_le _⟩ (wr := [(ad 0, .inr (10, oM ad t21 (0 : Int32) m_hasSnapshot (ad 1) m_rows m_lineLength m_formattedLength m_bufferLength m_limit m_next m_beginsAt m_token m_error m_errorAt m_errorPosition m_nested m_codeCount))]) [1, 2] [0] rfl rfl rfl rfl (by decide) (As := [.ref (ad 4), .int t21, .ref (ad 1), .int (0 : Int32)]) (rest := []) rfl hl.1 rfl (Nat.le_of_ble_eq_true rfl) dX10_undo_37 (fun H locs hP hD hS => ?_)
    refine W.eq (g2 := F0 m 40 ls []) rfl ?_
    have hP : va_P (dC, dI) vwCl [(ad 0, .inr (10, oM ad t21 (0 : Int32) m_hasSnapshot (ad 1) m_rows m_lineLength m_formattedLength m_bufferLength m_limit m_next m_beginsAt m_token m_error m_errorAt m_errorPosition m_nested m_codeCount)), ((ad 4), .inl (cJ, 1300, .inr (.inl m_history))), ((ad 1), .inl (cJ, 130, .inr (.inl m_now_37)))] H := hP
    have hD : va_D A [(ad 0, .inr (10, oM ad t21 (0 : Int32) m_hasSnapshot (ad 1) m_rows m_lineLength m_formattedLength m_bufferLength m_limit m_next m_beginsAt m_token m_error m_errorAt m_errorPosition m_nested m_codeCount)), ((ad 4), .inl (cJ, 1300, .inr (.inl m_history))), ((ad 1), .inl (cJ, 130, .inr (.inl m_now_37)))] := hD
    refine lv_aload_n hx hb dX10_undo_40 rfl (lv_at hl 0 rfl) ?_
    refine va_get (D := (dC, dI)) (ci := 10) (v := .int t21) (C := RX10) (T := TX10) (N := 37) hx hb htg inX10 hown hE.1 hP 0 rfl rfl 4 (by decide) (htg _ tw1386) (fun _ h9 => h9) rfl dX10_undo_41 ?_
    cases hf
    exact g_iret S hr hlocks hP hD hS dX10_undo_44
  · have hf := itt h9 hf
    refine lv_iconst (v := -1) hx hb dX10_undo_12 (by decide) ?_
    cases hf
    exact g_iret S hr hlocks hP hD hS dX10_undo_13
def p10_saveSnapshot (m_now : Nat → Int64) (m_snapshot : Nat → Int64) : Option (Bool × (Nat → Int64) × Int32) := ob (p10_copy 130 130 m_now m_snapshot (0 : Int32) (0 : Int32)) (fun m_snapshot_15 => some (true, m_snapshot_15, (0 : Int32)))
set_option maxHeartbeats 4000000 in
set_option maxRecDepth 100000 in
theorem c_X10_saveSnapshot (ad : Nat → Nat) (m_undoCount : Int32) (m_thrown : Int32) (m_hasSnapshot : Bool) (m_rows : Int32) (m_lineLength : Int32) (m_formattedLength : Int32) (m_bufferLength : Int32) (m_limit : Int32) (m_next : Int32) (m_beginsAt : Int32) (m_token : Int32) (m_error : Int32) (m_errorAt : Int32) (m_errorPosition : Int32) (m_nested : Int32) (m_codeCount : Int32) (m_now : Nat → Int64) (m_snapshot : Nat → Int64) (m_hasSnapshot_9 : Bool) (m_snapshot_9 : Nat → Int64) (m_thrown_9 : Int32) (hf : p10_saveSnapshot m_now m_snapshot = some (m_hasSnapshot_9, m_snapshot_9, m_thrown_9)) : gM l dC dI cI cJ cZ yX10_saveSnapshot cX10_saveSnapshot 1 none (1) (24) [.ref (ad 0)] [(ad 0, .inr (10, oM ad m_undoCount m_thrown m_hasSnapshot (ad 1) m_rows m_lineLength m_formattedLength m_bufferLength m_limit m_next m_beginsAt m_token m_error m_errorAt m_errorPosition m_nested m_codeCount)), ((ad 1), .inl (cJ, 130, .inr (.inl m_now))), ((ad 3), .inl (cJ, 130, .inr (.inl m_snapshot)))] [(ad 0, .inr (10, oM ad m_undoCount m_thrown_9 m_hasSnapshot_9 (ad 1) m_rows m_lineLength m_formattedLength m_bufferLength m_limit m_next m_beginsAt m_token m_error m_errorAt m_errorPosition m_nested m_codeCount)), ((ad 1), .inl (cJ, 130, .inr (.inl m_now))), ((ad 3), .inl (cJ, 130, .inr (.inl m_snapshot_9)))] none := by
  refine g_start (own := RX10) (by decide +kernel) rfl (Nat.le_of_ble_eq_true rfl) ?_
  intro p e s m below meth c A ls S hr hlocks hE hP hD hS hA hl hin
  have hx := S.1
  have hb := S.2.1
  have hml := S.2.2.1
  have hown := S.2.2.2.1
  have htg : ∀ z ∈ gw, z.before ([.ref (ad 0)] : List Value).toArray s = true := fun w h => S.2.2.2.2 w (List.mem_cons_of_mem _ h)
  have hl : lv_has ls 1 [(0, .ref (ad 0))] := hl
  have hS0 := hS
  obtain ⟨H, hH⟩ : ∃ H, H = s.heap := ⟨_, rfl⟩
  obtain ⟨locs, hlc⟩ : ∃ locs : List Loc, locs = [] := ⟨_, rfl⟩
  have hS : va_S A s.heap H locs := by rw [hH, hlc]; exact hS0
  have hP : va_P (dC, dI) vwCl [(ad 0, .inr (10, oM ad m_undoCount m_thrown m_hasSnapshot (ad 1) m_rows m_lineLength m_formattedLength m_bufferLength m_limit m_next m_beginsAt m_token m_error m_errorAt m_errorPosition m_nested m_codeCount)), ((ad 1), .inl (cJ, 130, .inr (.inl m_now))), ((ad 3), .inl (cJ, 130, .inr (.inl m_snapshot)))] H := by rw [hH]; exact hP
  suffices hgo : W p l e ({ frames := 1, cells := 0, slots := 0, locals := 24 }) s m ([.ref (ad 0)] : List Value).toArray below meth c H locs 0 0 (MQ below (gQ dC dI none A [(ad 0, .inr (10, oM ad m_undoCount m_thrown_9 m_hasSnapshot_9 (ad 1) m_rows m_lineLength m_formattedLength m_bufferLength m_limit m_next m_beginsAt m_token m_error m_errorAt m_errorPosition m_nested m_codeCount)), ((ad 1), .inl (cJ, 130, .inr (.inl m_now))), ((ad 3), .inl (cJ, 130, .inr (.inl m_snapshot_9)))]) ([.ref (ad 0)] : List Value).toArray s 0 0 A) (F0 m 0 ls []) by rw [hH, hlc] at hgo; exact hgo
  rw [p10_saveSnapshot] at hf
  refine lv_aload_n hx hb dX10_saveSnapshot_0 rfl (lv_at hl 0 rfl) ?_
  refine lv_iconst (v := 0) hx hb dX10_saveSnapshot_1 (by decide) ?_
  refine va_put (D := (dC, dI)) (ci := 10) (v := .int (0 : Int32)) (ty := .int) (C := RX10) (T := TX10) (N := 37) hx hb htg inX10 tyX10 tyX10_ok nmX10 hown hE.1 hP hD hS 0 rfl rfl 5 (by decide) (htg _ tw1387) (fun _ h9 => h9) rfl (by decide +kernel) rfl rfl (Nat.le_of_ble_eq_true rfl) dX10_saveSnapshot_2 (fun H locs hP hD hS => ?_)
  have hP : va_P (dC, dI) vwCl [(ad 0, .inr (10, oM ad m_undoCount (0 : Int32) m_hasSnapshot (ad 1) m_rows m_lineLength m_formattedLength m_bufferLength m_limit m_next m_beginsAt m_token m_error m_errorAt m_errorPosition m_nested m_codeCount)), ((ad 1), .inl (cJ, 130, .inr (.inl m_now))), ((ad 3), .inl (cJ, 130, .inr (.inl m_snapshot)))] H := hP
  have hD : va_D A [(ad 0, .inr (10, oM ad m_undoCount (0 : Int32) m_hasSnapshot (ad 1) m_rows m_lineLength m_formattedLength m_bufferLength m_limit m_next m_beginsAt m_token m_error m_errorAt m_errorPosition m_nested m_codeCount)), ((ad 1), .inl (cJ, 130, .inr (.inl m_now))), ((ad 3), .inl (cJ, 130, .inr (.inl m_snapshot)))] := hD
  refine lv_aload_n hx hb dX10_saveSnapshot_5 rfl (lv_at hl 0 rfl) ?_
  refine va_get (D := (dC, dI)) (ci := 10) (v := .ref (ad 1)) (C := RX10) (T := TX10) (N := 37) hx hb htg inX10 hown hE.1 hP 0 rfl rfl 0 (by decide) (htg _ tw1382) (fun _ h9 => h9) rfl dX10_saveSnapshot_6 ?_
  refine lv_iconst (v := 0) hx hb dX10_saveSnapshot_9 (by decide) ?_
  refine lv_aload_n hx hb dX10_saveSnapshot_10 rfl (lv_at hl 0 rfl) ?_
  refine va_get (D := (dC, dI)) (ci := 10) (v := .ref (ad 3)) (C := RX10) (T := TX10) (N := 37) hx hb htg inX10 hown hE.1 hP 0 rfl rfl 2 (by decide) (htg _ tw1384) (fun _ h9 => h9) rfl dX10_saveSnapshot_11 ?_
  refine lv_iconst (v := 0) hx hb dX10_saveSnapshot_14 (by decide) ?_
  obtain ⟨m_snapshot_15, h9, hf⟩ := ob_s hf
  refine gcS (index := 357) S hE (c_X10_copy (ad 1) (ad 3) m_now m_snapshot 130 (Nat.le_of_ble_eq_true rfl) 130 (Nat.le_of_ble_eq_true rfl) (0 : Int32) (0 : Int32) m_snapshot_15 h9) mX10_copy tw1850 ⟨Nat.le_of_ble_eq_true rfl, Nat.le_of_ble_eq_true rfl⟩ hP hD hS hA ⟨Nat.zero_le _, Nat.zero_le _⟩ (wr := [(ad 0, .inr (10, oM ad m_undoCount (0 : Int32) m_hasSnapshot (ad 1) m_rows m_lineLength m_formattedLength m_bufferLength m_limit m_next m_beginsAt m_token m_error m_errorAt m_errorPosition m_nested m_codeCount))]) [1, 2] [0] rfl rfl rfl rfl (by decide) (As := [.ref (ad 1), .int (0 : Int32), .ref (ad 3), .int (0 : Int32)]) (rest := []) rfl hl.1 rfl (Nat.le_of_ble_eq_true rfl) dX10_saveSnapshot_15 (fun H locs hP hD hS => ?_)
  refine W.eq (g2 := F0 m 18 ls []) rfl ?_
  have hP : va_P (dC, dI) vwCl [(ad 0, .inr (10, oM ad m_undoCount (0 : Int32) m_hasSnapshot (ad 1) m_rows m_lineLength m_formattedLength m_bufferLength m_limit m_next m_beginsAt m_token m_error m_errorAt m_errorPosition m_nested m_codeCount)), ((ad 1), .inl (cJ, 130, .inr (.inl m_now))), ((ad 3), .inl (cJ, 130, .inr (.inl m_snapshot_15)))] H := hP
  have hD : va_D A [(ad 0, .inr (10, oM ad m_undoCount (0 : Int32) m_hasSnapshot (ad 1) m_rows m_lineLength m_formattedLength m_bufferLength m_limit m_next m_beginsAt m_token m_error m_errorAt m_errorPosition m_nested m_codeCount)), ((ad 1), .inl (cJ, 130, .inr (.inl m_now))), ((ad 3), .inl (cJ, 130, .inr (.inl m_snapshot_15)))] := hD
  refine lv_aload_n hx hb dX10_saveSnapshot_18 rfl (lv_at hl 0 rfl) ?_
  refine lv_iconst (v := 1) hx hb dX10_saveSnapshot_19 (by decide) ?_
  refine va_put (D := (dC, dI)) (ci := 10) (v := .int (bI true)) (ty := .boolean) (C := RX10) (T := TX10) (N := 37) hx hb htg inX10 tyX10 tyX10_ok nmX10 hown hE.1 hP hD hS 0 rfl rfl 6 (by decide) (htg _ tw1388) (fun _ h9 => h9) rfl (by decide +kernel) (nar_bI _) (fit_bI _) (Nat.le_of_ble_eq_true rfl) dX10_saveSnapshot_20 (fun H locs hP hD hS => ?_)
  have hP : va_P (dC, dI) vwCl [(ad 0, .inr (10, oM ad m_undoCount (0 : Int32) true (ad 1) m_rows m_lineLength m_formattedLength m_bufferLength m_limit m_next m_beginsAt m_token m_error m_errorAt m_errorPosition m_nested m_codeCount)), ((ad 1), .inl (cJ, 130, .inr (.inl m_now))), ((ad 3), .inl (cJ, 130, .inr (.inl m_snapshot_15)))] H := hP
  have hD : va_D A [(ad 0, .inr (10, oM ad m_undoCount (0 : Int32) true (ad 1) m_rows m_lineLength m_formattedLength m_bufferLength m_limit m_next m_beginsAt m_token m_error m_errorAt m_errorPosition m_nested m_codeCount)), ((ad 1), .inl (cJ, 130, .inr (.inl m_now))), ((ad 3), .inl (cJ, 130, .inr (.inl m_snapshot_15)))] := hD
  cases hf
  exact g_vret S hr hlocks hP hD hS dX10_saveSnapshot_23
def p10_restoreSnapshot (m_undoCount : Int32) (m_hasSnapshot : Bool) (m_now : Nat → Int64) (m_snapshot : Nat → Int64) : Option (Bool × (Nat → Int64) × Int32 × Int32) := (cond m_hasSnapshot (ob (p10_copy 130 130 m_snapshot m_now (0 : Int32) (0 : Int32)) (fun m_now_24 => some (true, m_now_24, (0 : Int32), (0 : Int32)))) (some (false, m_now, (0 : Int32), m_undoCount)))
set_option maxHeartbeats 4000000 in
set_option maxRecDepth 100000 in
theorem c_X10_restoreSnapshot (ad : Nat → Nat) (m_undoCount : Int32) (m_thrown : Int32) (m_hasSnapshot : Bool) (m_rows : Int32) (m_lineLength : Int32) (m_formattedLength : Int32) (m_bufferLength : Int32) (m_limit : Int32) (m_next : Int32) (m_beginsAt : Int32) (m_token : Int32) (m_error : Int32) (m_errorAt : Int32) (m_errorPosition : Int32) (m_nested : Int32) (m_codeCount : Int32) (m_now : Nat → Int64) (m_snapshot : Nat → Int64) (r9 : Bool) (m_now_9 : Nat → Int64) (m_thrown_9 : Int32) (m_undoCount_9 : Int32) (hf : p10_restoreSnapshot m_undoCount m_hasSnapshot m_now m_snapshot = some (r9, m_now_9, m_thrown_9, m_undoCount_9)) : gM l dC dI cI cJ cZ yX10_restoreSnapshot cX10_restoreSnapshot 1 (some .boolean) (1) (24) [.ref (ad 0)] [(ad 0, .inr (10, oM ad m_undoCount m_thrown m_hasSnapshot (ad 1) m_rows m_lineLength m_formattedLength m_bufferLength m_limit m_next m_beginsAt m_token m_error m_errorAt m_errorPosition m_nested m_codeCount)), ((ad 1), .inl (cJ, 130, .inr (.inl m_now))), ((ad 3), .inl (cJ, 130, .inr (.inl m_snapshot)))] [(ad 0, .inr (10, oM ad m_undoCount_9 m_thrown_9 m_hasSnapshot (ad 1) m_rows m_lineLength m_formattedLength m_bufferLength m_limit m_next m_beginsAt m_token m_error m_errorAt m_errorPosition m_nested m_codeCount)), ((ad 1), .inl (cJ, 130, .inr (.inl m_now_9))), ((ad 3), .inl (cJ, 130, .inr (.inl m_snapshot)))] (some (.int (bI r9))) := by
  refine g_start (own := RX10) (by decide +kernel) rfl (Nat.le_of_ble_eq_true rfl) ?_
  intro p e s m below meth c A ls S hr hlocks hE hP hD hS hA hl hin
  have hx := S.1
  have hb := S.2.1
  have hml := S.2.2.1
  have hown := S.2.2.2.1
  have htg : ∀ z ∈ gw, z.before ([.ref (ad 0)] : List Value).toArray s = true := fun w h => S.2.2.2.2 w (List.mem_cons_of_mem _ h)
  have hl : lv_has ls 1 [(0, .ref (ad 0))] := hl
  have hS0 := hS
  obtain ⟨H, hH⟩ : ∃ H, H = s.heap := ⟨_, rfl⟩
  obtain ⟨locs, hlc⟩ : ∃ locs : List Loc, locs = [] := ⟨_, rfl⟩
  have hS : va_S A s.heap H locs := by rw [hH, hlc]; exact hS0
  have hP : va_P (dC, dI) vwCl [(ad 0, .inr (10, oM ad m_undoCount m_thrown m_hasSnapshot (ad 1) m_rows m_lineLength m_formattedLength m_bufferLength m_limit m_next m_beginsAt m_token m_error m_errorAt m_errorPosition m_nested m_codeCount)), ((ad 1), .inl (cJ, 130, .inr (.inl m_now))), ((ad 3), .inl (cJ, 130, .inr (.inl m_snapshot)))] H := by rw [hH]; exact hP
  suffices hgo : W p l e ({ frames := 1, cells := 0, slots := 0, locals := 24 }) s m ([.ref (ad 0)] : List Value).toArray below meth c H locs 0 0 (MQ below (gQ dC dI (some (.int (bI r9))) A [(ad 0, .inr (10, oM ad m_undoCount_9 m_thrown_9 m_hasSnapshot (ad 1) m_rows m_lineLength m_formattedLength m_bufferLength m_limit m_next m_beginsAt m_token m_error m_errorAt m_errorPosition m_nested m_codeCount)), ((ad 1), .inl (cJ, 130, .inr (.inl m_now_9))), ((ad 3), .inl (cJ, 130, .inr (.inl m_snapshot)))]) ([.ref (ad 0)] : List Value).toArray s 0 0 A) (F0 m 0 ls []) by rw [hH, hlc] at hgo; exact hgo
  rw [p10_restoreSnapshot] at hf
  refine lv_aload_n hx hb dX10_restoreSnapshot_0 rfl (lv_at hl 0 rfl) ?_
  refine lv_iconst (v := 0) hx hb dX10_restoreSnapshot_1 (by decide) ?_
  refine va_put (D := (dC, dI)) (ci := 10) (v := .int (0 : Int32)) (ty := .int) (C := RX10) (T := TX10) (N := 37) hx hb htg inX10 tyX10 tyX10_ok nmX10 hown hE.1 hP hD hS 0 rfl rfl 5 (by decide) (htg _ tw1387) (fun _ h9 => h9) rfl (by decide +kernel) rfl rfl (Nat.le_of_ble_eq_true rfl) dX10_restoreSnapshot_2 (fun H locs hP hD hS => ?_)
  have hP : va_P (dC, dI) vwCl [(ad 0, .inr (10, oM ad m_undoCount (0 : Int32) m_hasSnapshot (ad 1) m_rows m_lineLength m_formattedLength m_bufferLength m_limit m_next m_beginsAt m_token m_error m_errorAt m_errorPosition m_nested m_codeCount)), ((ad 1), .inl (cJ, 130, .inr (.inl m_now))), ((ad 3), .inl (cJ, 130, .inr (.inl m_snapshot)))] H := hP
  have hD : va_D A [(ad 0, .inr (10, oM ad m_undoCount (0 : Int32) m_hasSnapshot (ad 1) m_rows m_lineLength m_formattedLength m_bufferLength m_limit m_next m_beginsAt m_token m_error m_errorAt m_errorPosition m_nested m_codeCount)), ((ad 1), .inl (cJ, 130, .inr (.inl m_now))), ((ad 3), .inl (cJ, 130, .inr (.inl m_snapshot)))] := hD
  refine lv_aload_n hx hb dX10_restoreSnapshot_5 rfl (lv_at hl 0 rfl) ?_
  refine va_get (D := (dC, dI)) (ci := 10) (v := .int (bI m_hasSnapshot)) (C := RX10) (T := TX10) (N := 37) hx hb htg inX10 hown hE.1 hP 0 rfl rfl 6 (by decide) (htg _ tw1388) (fun _ h9 => h9) rfl dX10_restoreSnapshot_6 ?_
  refine lv_if_ne (tgt := 14) hx hb dX10_restoreSnapshot_9 (by decide) (fun h9 => ?_) (fun h9 => ?_)
  · have hf := ctt (bI_1 h9) hf
    refine lv_aload_n hx hb dX10_restoreSnapshot_14 rfl (lv_at hl 0 rfl) ?_
    refine va_get (D := (dC, dI)) (ci := 10) (v := .ref (ad 3)) (C := RX10) (T := TX10) (N := 37) hx hb htg inX10 hown hE.1 hP 0 rfl rfl 2 (by decide) (htg _ tw1384) (fun _ h9 => h9) rfl dX10_restoreSnapshot_15 ?_
    refine lv_iconst (v := 0) hx hb dX10_restoreSnapshot_18 (by decide) ?_
    refine lv_aload_n hx hb dX10_restoreSnapshot_19 rfl (lv_at hl 0 rfl) ?_
    refine va_get (D := (dC, dI)) (ci := 10) (v := .ref (ad 1)) (C := RX10) (T := TX10) (N := 37) hx hb htg inX10 hown hE.1 hP 0 rfl rfl 0 (by decide) (htg _ tw1382) (fun _ h9 => h9) rfl dX10_restoreSnapshot_20 ?_
    refine lv_iconst (v := 0) hx hb dX10_restoreSnapshot_23 (by decide) ?_
    obtain ⟨m_now_24, h9, hf⟩ := ob_s hf
    refine gcS (index := 357) S hE (c_X10_copy (ad 3) (ad 1) m_snapshot m_now 130 (Nat.le_of_ble_eq_true rfl) 130 (Nat.le_of_ble_eq_true rfl) (0 : Int32) (0 : Int32) m_now_24 h9) mX10_copy tw1850 ⟨Nat.le_of_ble_eq_true rfl, Nat.le_of_ble_eq_true rfl⟩ hP hD hS hA ⟨Nat.zero_le _, Nat.zero_le _⟩ (wr := [(ad 0, .inr (10, oM ad m_undoCount (0 : Int32) m_hasSnapshot (ad 1) m_rows m_lineLength m_formattedLength m_bufferLength m_limit m_next m_beginsAt m_token m_error m_errorAt m_errorPosition m_nested m_codeCount))]) [2, 1] [0] rfl rfl rfl rfl (by decide) (As := [.ref (ad 3), .int (0 : Int32), .ref (ad 1), .int (0 : Int32)]) (rest := []) rfl hl.1 rfl (Nat.le_of_ble_eq_true rfl) dX10_restoreSnapshot_24 (fun H locs hP hD hS => ?_)
    refine W.eq (g2 := F0 m 27 ls []) rfl ?_
    have hP : va_P (dC, dI) vwCl [(ad 0, .inr (10, oM ad m_undoCount (0 : Int32) m_hasSnapshot (ad 1) m_rows m_lineLength m_formattedLength m_bufferLength m_limit m_next m_beginsAt m_token m_error m_errorAt m_errorPosition m_nested m_codeCount)), ((ad 3), .inl (cJ, 130, .inr (.inl m_snapshot))), ((ad 1), .inl (cJ, 130, .inr (.inl m_now_24)))] H := hP
    have hD : va_D A [(ad 0, .inr (10, oM ad m_undoCount (0 : Int32) m_hasSnapshot (ad 1) m_rows m_lineLength m_formattedLength m_bufferLength m_limit m_next m_beginsAt m_token m_error m_errorAt m_errorPosition m_nested m_codeCount)), ((ad 3), .inl (cJ, 130, .inr (.inl m_snapshot))), ((ad 1), .inl (cJ, 130, .inr (.inl m_now_24)))] := hD
    refine lv_aload_n hx hb dX10_restoreSnapshot_27 rfl (lv_at hl 0 rfl) ?_
    refine lv_iconst (v := 0) hx hb dX10_restoreSnapshot_28 (by decide) ?_
    refine va_put (D := (dC, dI)) (ci := 10) (v := .int (0 : Int32)) (ty := .int) (C := RX10) (T := TX10) (N := 37) hx hb htg inX10 tyX10 tyX10_ok nmX10 hown hE.1 hP hD hS 0 rfl rfl 4 (by decide) (htg _ tw1386) (fun _ h9 => h9) rfl (by decide +kernel) rfl rfl (Nat.le_of_ble_eq_true rfl) dX10_restoreSnapshot_29 (fun H locs hP hD hS => ?_)
    have hP : va_P (dC, dI) vwCl [(ad 0, .inr (10, oM ad (0 : Int32) (0 : Int32) m_hasSnapshot (ad 1) m_rows m_lineLength m_formattedLength m_bufferLength m_limit m_next m_beginsAt m_token m_error m_errorAt m_errorPosition m_nested m_codeCount)), ((ad 3), .inl (cJ, 130, .inr (.inl m_snapshot))), ((ad 1), .inl (cJ, 130, .inr (.inl m_now_24)))] H := hP
    have hD : va_D A [(ad 0, .inr (10, oM ad (0 : Int32) (0 : Int32) m_hasSnapshot (ad 1) m_rows m_lineLength m_formattedLength m_bufferLength m_limit m_next m_beginsAt m_token m_error m_errorAt m_errorPosition m_nested m_codeCount)), ((ad 3), .inl (cJ, 130, .inr (.inl m_snapshot))), ((ad 1), .inl (cJ, 130, .inr (.inl m_now_24)))] := hD
    refine lv_iconst (v := 1) hx hb dX10_restoreSnapshot_32 (by decide) ?_
    cases hf
    exact g_zret S hr (nar_bI true) hlocks (hP.sub [0, 2, 1] rfl) (hD.sub [0, 2, 1] (by decide) rfl) hS dX10_restoreSnapshot_33
  · have hf := ctf (bI_0 h9) hf
    refine lv_iconst (v := 0) hx hb dX10_restoreSnapshot_12 (by decide) ?_
    cases hf
    exact g_zret S hr (nar_bI false) hlocks hP hD hS dX10_restoreSnapshot_13
def p10_feed_J120 (m_thrown_120 : Int32) (m_bufferLength_120 : Int32) (m_buffer_120 : Nat → Int32) : Option (Int32 × (Nat → Int32) × Int32 × Int32) := some (m_bufferLength_120, m_buffer_120, m_bufferLength_120, m_thrown_120)
def p10_feed_J78 (k23 : Int32 → (Nat → Int32) → Int32 → Option ((Nat → Int32) × Int32)) (m_bufferLength_23 : Int32) (m_buffer_23 : Nat → Int32) (v6_23 : Int32) (v7_78 : Int32) : Option ((Nat → Int32) × Int32) := gd m_bufferLength_23 800 (lb (upd m_buffer_23 m_bufferLength_23.toNatClampNeg ((v7_78 >>> (((24 : Int32) - ((8 : Int32) * (v6_23 - v6_23 / (4 : Int32) * (4 : Int32)))) &&& 31)) &&& (255 : Int32))) (fun g103 => lb (m_bufferLength_23 + (1 : Int32)) (fun t111 => lb (v6_23 + (1 : Int32)) (fun t114 => (k23 t114 g103 t111)))))
def p10_feed_L23_B (v1 : Int32) (v2 : Int32) (v3 : Int32) (v4 : Int32) (v5 : Int32) (k23 : Int32 → (Nat → Int32) → Int32 → Option ((Nat → Int32) × Int32)) (v6_23 : Int32) (m_buffer_23 : Nat → Int32) (m_bufferLength_23 : Int32) : Option ((Nat → Int32) × Int32) := (if (20 : Int32) ≤ v6_23 then some (m_buffer_23, m_bufferLength_23) else (if (4 : Int32) ≤ v6_23 then (if (8 : Int32) ≤ v6_23 then (if (12 : Int32) ≤ v6_23 then (if (16 : Int32) ≤ v6_23 then (p10_feed_J78 k23 m_bufferLength_23 m_buffer_23 v6_23 v5) else (p10_feed_J78 k23 m_bufferLength_23 m_buffer_23 v6_23 v4)) else (p10_feed_J78 k23 m_bufferLength_23 m_buffer_23 v6_23 v3)) else (p10_feed_J78 k23 m_bufferLength_23 m_buffer_23 v6_23 v2)) else (p10_feed_J78 k23 m_bufferLength_23 m_buffer_23 v6_23 v1)))
def p10_feed_L23 (v1 : Int32) (v2 : Int32) (v3 : Int32) (v4 : Int32) (v5 : Int32) : Nat → Int32 → (Nat → Int32) → Int32 → Option ((Nat → Int32) × Int32)
  | 0, _, _, _ => none
  | n+1, v6_23, m_buffer_23, m_bufferLength_23 => p10_feed_L23_B v1 v2 v3 v4 v5 (p10_feed_L23 v1 v2 v3 v4 v5 n) v6_23 m_buffer_23 m_bufferLength_23
def p10_feed (m_bufferLength : Int32) (m_buffer : Nat → Int32) (v1 : Int32) (v2 : Int32) (v3 : Int32) (v4 : Int32) (v5 : Int32) : Option (Int32 × (Nat → Int32) × Int32 × Int32) := (if (m_bufferLength + (20 : Int32)) ≤ (800 : Int32) then (ob (p10_feed_L23 v1 v2 v3 v4 v5 FU (0 : Int32) m_buffer m_bufferLength) (uc2 fun m_buffer_x23 m_bufferLength_x23 => p10_feed_J120 (0 : Int32) m_bufferLength_x23 m_buffer_x23)) else some ((-1 : Int32), m_buffer, m_bufferLength, (0 : Int32)))
set_option maxHeartbeats 4000000 in
set_option maxRecDepth 100000 in
theorem c_X10_feed (ad : Nat → Nat) (a_m_fam : Nat) (m_undoCount : Int32) (m_thrown : Int32) (m_hasSnapshot : Bool) (m_rows : Int32) (m_lineLength : Int32) (m_formattedLength : Int32) (m_bufferLength : Int32) (m_limit : Int32) (m_next : Int32) (m_beginsAt : Int32) (m_token : Int32) (m_error : Int32) (m_errorAt : Int32) (m_errorPosition : Int32) (m_nested : Int32) (m_codeCount : Int32) (m_buffer : Nat → Int32) (v1 : Int32) (v2 : Int32) (v3 : Int32) (v4 : Int32) (v5 : Int32) (r9 : Int32) (m_buffer_9 : Nat → Int32) (m_bufferLength_9 : Int32) (m_thrown_9 : Int32) (hf : p10_feed m_bufferLength m_buffer v1 v2 v3 v4 v5 = some (r9, m_buffer_9, m_bufferLength_9, m_thrown_9)) : gM l dC dI cI cJ cZ yX10_feed cX10_feed 8 (some .int) (0) (0) [.ref (ad 0), .int v1, .int v2, .int v3, .int v4, .int v5] [(ad 0, .inr (10, oM ad m_undoCount m_thrown m_hasSnapshot a_m_fam m_rows m_lineLength m_formattedLength m_bufferLength m_limit m_next m_beginsAt m_token m_error m_errorAt m_errorPosition m_nested m_codeCount)), ((ad 24), .inl (cI, 800, .inl m_buffer))] [(ad 0, .inr (10, oM ad m_undoCount m_thrown_9 m_hasSnapshot a_m_fam m_rows m_lineLength m_formattedLength m_bufferLength_9 m_limit m_next m_beginsAt m_token m_error m_errorAt m_errorPosition m_nested m_codeCount)), ((ad 24), .inl (cI, 800, .inl m_buffer_9))] (some (.int r9)) := by
  refine g_start (own := RX10) (by decide +kernel) rfl (Nat.le_of_ble_eq_true rfl) ?_
  intro p e s m below meth c A ls S hr hlocks hE hP hD hS hA hl hin
  have hx := S.1
  have hb := S.2.1
  have hml := S.2.2.1
  have hown := S.2.2.2.1
  have htg : ∀ z ∈ gw, z.before ([.ref (ad 0), .int v1, .int v2, .int v3, .int v4, .int v5] : List Value).toArray s = true := fun w h => S.2.2.2.2 w (List.mem_cons_of_mem _ h)
  have hl : lv_has ls 8 [(0, .ref (ad 0)), (1, .int v1), (2, .int v2), (3, .int v3), (4, .int v4), (5, .int v5)] := hl
  have hS0 := hS
  obtain ⟨H, hH⟩ : ∃ H, H = s.heap := ⟨_, rfl⟩
  obtain ⟨locs, hlc⟩ : ∃ locs : List Loc, locs = [] := ⟨_, rfl⟩
  have hS : va_S A s.heap H locs := by rw [hH, hlc]; exact hS0
  have hP : va_P (dC, dI) vwCl [(ad 0, .inr (10, oM ad m_undoCount m_thrown m_hasSnapshot a_m_fam m_rows m_lineLength m_formattedLength m_bufferLength m_limit m_next m_beginsAt m_token m_error m_errorAt m_errorPosition m_nested m_codeCount)), ((ad 24), .inl (cI, 800, .inl m_buffer))] H := by rw [hH]; exact hP
  suffices hgo : W p l e ({ frames := 0, cells := 0, slots := 0, locals := 0 }) s m ([.ref (ad 0), .int v1, .int v2, .int v3, .int v4, .int v5] : List Value).toArray below meth c H locs 0 0 (MQ below (gQ dC dI (some (.int r9)) A [(ad 0, .inr (10, oM ad m_undoCount m_thrown_9 m_hasSnapshot a_m_fam m_rows m_lineLength m_formattedLength m_bufferLength_9 m_limit m_next m_beginsAt m_token m_error m_errorAt m_errorPosition m_nested m_codeCount)), ((ad 24), .inl (cI, 800, .inl m_buffer_9))]) ([.ref (ad 0), .int v1, .int v2, .int v3, .int v4, .int v5] : List Value).toArray s 0 0 A) (F0 m 0 ls []) by rw [hH, hlc] at hgo; exact hgo
  rw [p10_feed] at hf
  have J120 : ∀ (m_thrown_120 : Int32) (m_bufferLength_120 : Int32) (m_buffer_120 : Nat → Int32) (H : Heap) (locs : List Loc) (ls : Array Slot), p10_feed_J120 m_thrown_120 m_bufferLength_120 m_buffer_120 = some (r9, m_buffer_9, m_bufferLength_9, m_thrown_9) → va_P (dC, dI) vwCl [(ad 0, .inr (10, oM ad m_undoCount m_thrown_120 m_hasSnapshot a_m_fam m_rows m_lineLength m_formattedLength m_bufferLength_120 m_limit m_next m_beginsAt m_token m_error m_errorAt m_errorPosition m_nested m_codeCount)), ((ad 24), .inl (cI, 800, .inl m_buffer_120))] H → va_D A [(ad 0, .inr (10, oM ad m_undoCount m_thrown_120 m_hasSnapshot a_m_fam m_rows m_lineLength m_formattedLength m_bufferLength_120 m_limit m_next m_beginsAt m_token m_error m_errorAt m_errorPosition m_nested m_codeCount)), ((ad 24), .inl (cI, 800, .inl m_buffer_120))] → va_S A s.heap H locs → lv_has ls 8 [(0, .ref (ad 0))] → W p l e ({ frames := 0, cells := 0, slots := 0, locals := 0 }) s m ([.ref (ad 0), .int v1, .int v2, .int v3, .int v4, .int v5] : List Value).toArray below meth c H locs 0 0 (MQ below (gQ dC dI (some (.int r9)) A [(ad 0, .inr (10, oM ad m_undoCount m_thrown_9 m_hasSnapshot a_m_fam m_rows m_lineLength m_formattedLength m_bufferLength_9 m_limit m_next m_beginsAt m_token m_error m_errorAt m_errorPosition m_nested m_codeCount)), ((ad 24), .inl (cI, 800, .inl m_buffer_9))]) ([.ref (ad 0), .int v1, .int v2, .int v3, .int v4, .int v5] : List Value).toArray s 0 0 A) (F0 m 120 ls []) := by
    intro m_thrown_120 m_bufferLength_120 m_buffer_120 H locs ls hf hP hD hS hl
    rw [p10_feed_J120] at hf
    refine lv_aload_n hx hb dX10_feed_120 rfl (lv_at hl 0 rfl) ?_
    refine va_get (D := (dC, dI)) (ci := 10) (v := .int m_bufferLength_120) (C := RX10) (T := TX10) (N := 37) hx hb htg inX10 hown hE.1 hP 0 rfl rfl 24 (by decide) (htg _ tw1406) (fun _ h9 => h9) rfl dX10_feed_121 ?_
    cases hf
    exact g_iret S hr hlocks hP hD hS dX10_feed_124
  refine lv_aload_n hx hb dX10_feed_0 rfl (lv_at hl 0 rfl) ?_
  refine lv_iconst (v := 0) hx hb dX10_feed_1 (by decide) ?_
  refine va_put (D := (dC, dI)) (ci := 10) (v := .int (0 : Int32)) (ty := .int) (C := RX10) (T := TX10) (N := 37) hx hb htg inX10 tyX10 tyX10_ok nmX10 hown hE.1 hP hD hS 0 rfl rfl 5 (by decide) (htg _ tw1387) (fun _ h9 => h9) rfl (by decide +kernel) rfl rfl (Nat.le_of_ble_eq_true rfl) dX10_feed_2 (fun H locs hP hD hS => ?_)
  have hP : va_P (dC, dI) vwCl [(ad 0, .inr (10, oM ad m_undoCount (0 : Int32) m_hasSnapshot a_m_fam m_rows m_lineLength m_formattedLength m_bufferLength m_limit m_next m_beginsAt m_token m_error m_errorAt m_errorPosition m_nested m_codeCount)), ((ad 24), .inl (cI, 800, .inl m_buffer))] H := hP
  have hD : va_D A [(ad 0, .inr (10, oM ad m_undoCount (0 : Int32) m_hasSnapshot a_m_fam m_rows m_lineLength m_formattedLength m_bufferLength m_limit m_next m_beginsAt m_token m_error m_errorAt m_errorPosition m_nested m_codeCount)), ((ad 24), .inl (cI, 800, .inl m_buffer))] := hD
  refine lv_aload_n hx hb dX10_feed_5 rfl (lv_at hl 0 rfl) ?_
  refine va_get (D := (dC, dI)) (ci := 10) (v := .int m_bufferLength) (C := RX10) (T := TX10) (N := 37) hx hb htg inX10 hown hE.1 hP 0 rfl rfl 24 (by decide) (htg _ tw1406) (fun _ h9 => h9) rfl dX10_feed_6 ?_
  refine lv_bipush (v := 20) hx hb dX10_feed_9 (by decide) ?_
  refine lv_iadd hx hb dX10_feed_11 ?_
  refine lv_sipush (v := 800) hx hb dX10_feed_12 (by decide) ?_
  refine lv_icmp_le (tgt := 20) hx hb dX10_feed_15 (by decide) (fun h9 => ?_) (fun h9 => ?_)
  · have hf := itt h9 hf
    refine lv_iconst (v := 0) hx hb dX10_feed_20 (by decide) ?_
    refine lv_istore (lv' := [(6, .int (0 : Int32)), (0, .ref (ad 0)), (1, .int v1), (2, .int v2), (3, .int v3), (4, .int v4), (5, .int v5)]) hx hb dX10_feed_21 hl (by decide) rfl (fun ls hl => ?_)
    have K23 : ∀ (n23 : Nat) (v6_23 : Int32) (m_buffer_23 : Nat → Int32) (m_bufferLength_23 : Int32) (ex23 : (Nat → Int32) × Int32) (H : Heap) (locs : List Loc) (ls : Array Slot), p10_feed_L23 v1 v2 v3 v4 v5 n23 v6_23 m_buffer_23 m_bufferLength_23 = some ex23 → (uc2 fun m_buffer_x23 m_bufferLength_x23 => p10_feed_J120 (0 : Int32) m_bufferLength_x23 m_buffer_x23) ex23 = some (r9, m_buffer_9, m_bufferLength_9, m_thrown_9) → va_P (dC, dI) vwCl [(ad 0, .inr (10, oM ad m_undoCount (0 : Int32) m_hasSnapshot a_m_fam m_rows m_lineLength m_formattedLength m_bufferLength_23 m_limit m_next m_beginsAt m_token m_error m_errorAt m_errorPosition m_nested m_codeCount)), ((ad 24), .inl (cI, 800, .inl m_buffer_23))] H → va_D A [(ad 0, .inr (10, oM ad m_undoCount (0 : Int32) m_hasSnapshot a_m_fam m_rows m_lineLength m_formattedLength m_bufferLength_23 m_limit m_next m_beginsAt m_token m_error m_errorAt m_errorPosition m_nested m_codeCount)), ((ad 24), .inl (cI, 800, .inl m_buffer_23))] → va_S A s.heap H locs → lv_has ls 8 [(0, .ref (ad 0)), (1, .int v1), (2, .int v2), (3, .int v3), (4, .int v4), (5, .int v5), (6, .int v6_23)] → W p l e ({ frames := 0, cells := 0, slots := 0, locals := 0 }) s m ([.ref (ad 0), .int v1, .int v2, .int v3, .int v4, .int v5] : List Value).toArray below meth c H locs 0 0 (MQ below (gQ dC dI (some (.int r9)) A [(ad 0, .inr (10, oM ad m_undoCount m_thrown_9 m_hasSnapshot a_m_fam m_rows m_lineLength m_formattedLength m_bufferLength_9 m_limit m_next m_beginsAt m_token m_error m_errorAt m_errorPosition m_nested m_codeCount)), ((ad 24), .inl (cI, 800, .inl m_buffer_9))]) ([.ref (ad 0), .int v1, .int v2, .int v3, .int v4, .int v5] : List Value).toArray s 0 0 A) (F0 m 23 ls []) := by
      intro n23
      induction n23 with
      | zero => intro v6_23 m_buffer_23 m_bufferLength_23 ex23 H locs ls hf; rw [p10_feed_L23] at hf; cases hf
      | succ n23 ih23 =>
        intro v6_23 m_buffer_23 m_bufferLength_23 ex23 H locs ls hf hk23 hP hD hS hl
        rw [p10_feed_L23, p10_feed_L23_B] at hf
        have J78 : ∀ (v7_78 : Int32) (H : Heap) (locs : List Loc) (ls : Array Slot), p10_feed_J78 (p10_feed_L23 v1 v2 v3 v4 v5 n23) m_bufferLength_23 m_buffer_23 v6_23 v7_78 = some ex23 → va_P (dC, dI) vwCl [(ad 0, .inr (10, oM ad m_undoCount (0 : Int32) m_hasSnapshot a_m_fam m_rows m_lineLength m_formattedLength m_bufferLength_23 m_limit m_next m_beginsAt m_token m_error m_errorAt m_errorPosition m_nested m_codeCount)), ((ad 24), .inl (cI, 800, .inl m_buffer_23))] H → va_D A [(ad 0, .inr (10, oM ad m_undoCount (0 : Int32) m_hasSnapshot a_m_fam m_rows m_lineLength m_formattedLength m_bufferLength_23 m_limit m_next m_beginsAt m_token m_error m_errorAt m_errorPosition m_nested m_codeCount)), ((ad 24), .inl (cI, 800, .inl m_buffer_23))] → va_S A s.heap H locs → lv_has ls 8 [(0, .ref (ad 0)), (1, .int v1), (2, .int v2), (3, .int v3), (4, .int v4), (5, .int v5), (6, .int v6_23), (7, .int v7_78)] → W p l e ({ frames := 0, cells := 0, slots := 0, locals := 0 }) s m ([.ref (ad 0), .int v1, .int v2, .int v3, .int v4, .int v5] : List Value).toArray below meth c H locs 0 0 (MQ below (gQ dC dI (some (.int r9)) A [(ad 0, .inr (10, oM ad m_undoCount m_thrown_9 m_hasSnapshot a_m_fam m_rows m_lineLength m_formattedLength m_bufferLength_9 m_limit m_next m_beginsAt m_token m_error m_errorAt m_errorPosition m_nested m_codeCount)), ((ad 24), .inl (cI, 800, .inl m_buffer_9))]) ([.ref (ad 0), .int v1, .int v2, .int v3, .int v4, .int v5] : List Value).toArray s 0 0 A) (F0 m 78 ls []) := by
          intro v7_78 H locs ls hf hP hD hS hl
          rw [p10_feed_J78] at hf
          refine lv_aload_n hx hb dX10_feed_78 rfl (lv_at hl 0 rfl) ?_
          refine va_get (D := (dC, dI)) (ci := 10) (v := .ref (ad 24)) (C := RX10) (T := TX10) (N := 37) hx hb htg inX10 hown hE.1 hP 0 rfl rfl 23 (by decide) (htg _ tw1405) (fun _ h9 => h9) rfl dX10_feed_79 ?_
          refine lv_aload_n hx hb dX10_feed_82 rfl (lv_at hl 0 rfl) ?_
          refine va_get (D := (dC, dI)) (ci := 10) (v := .int m_bufferLength_23) (C := RX10) (T := TX10) (N := 37) hx hb htg inX10 hown hE.1 hP 0 rfl rfl 24 (by decide) (htg _ tw1406) (fun _ h9 => h9) rfl dX10_feed_83 ?_
          refine lv_iload hx hb dX10_feed_86 (lv_at hl 7 rfl) ?_
          refine lv_bipush (v := 24) hx hb dX10_feed_88 (by decide) ?_
          refine lv_bipush (v := 8) hx hb dX10_feed_90 (by decide) ?_
          refine lv_iload hx hb dX10_feed_92 (lv_at hl 6 rfl) ?_
          refine lv_iconst (v := 4) hx hb dX10_feed_94 (by decide) ?_
          refine lv_irem hx hb dX10_feed_95 (by decide) ?_
          refine lv_imul hx hb dX10_feed_96 ?_
          refine lv_isub hx hb dX10_feed_97 ?_
          refine lv_ishr hx hb dX10_feed_98 ?_
          refine lv_sipush (v := 255) hx hb dX10_feed_99 (by decide) ?_
          refine lv_iand hx hb dX10_feed_102 ?_
          obtain ⟨h9, hf⟩ := gd_s hf
          refine va_iast hx hb hE.1 hP hD hS 1 0 rfl rfl h9 dX10_feed_103 (fun H locs hP hD hS => ?_)
          obtain ⟨g103, h9⟩ : ∃ z, z = (upd m_buffer_23 m_bufferLength_23.toNatClampNeg ((v7_78 >>> (((24 : Int32) - ((8 : Int32) * (v6_23 - v6_23 / (4 : Int32) * (4 : Int32)))) &&& 31)) &&& (255 : Int32))) := ⟨_, rfl⟩
          have hf := lb_e h9 hf
          have hP : va_P (dC, dI) vwCl [(ad 0, .inr (10, oM ad m_undoCount (0 : Int32) m_hasSnapshot a_m_fam m_rows m_lineLength m_formattedLength m_bufferLength_23 m_limit m_next m_beginsAt m_token m_error m_errorAt m_errorPosition m_nested m_codeCount)), ((ad 24), .inl (cI, 800, .inl g103))] H := by rw [h9]; exact hP
          have hD : va_D A [(ad 0, .inr (10, oM ad m_undoCount (0 : Int32) m_hasSnapshot a_m_fam m_rows m_lineLength m_formattedLength m_bufferLength_23 m_limit m_next m_beginsAt m_token m_error m_errorAt m_errorPosition m_nested m_codeCount)), ((ad 24), .inl (cI, 800, .inl g103))] := by rw [h9]; exact hD
          refine lv_aload_n hx hb dX10_feed_104 rfl (lv_at hl 0 rfl) ?_
          refine lv_dup hx hb dX10_feed_105 rfl ?_
          refine va_get (D := (dC, dI)) (ci := 10) (v := .int m_bufferLength_23) (C := RX10) (T := TX10) (N := 37) hx hb htg inX10 hown hE.1 hP 0 rfl rfl 24 (by decide) (htg _ tw1406) (fun _ h9 => h9) rfl dX10_feed_106 ?_
          refine lv_iconst (v := 1) hx hb dX10_feed_109 (by decide) ?_
          refine lv_iadd hx hb dX10_feed_110 ?_
          refine lv_topi (fun t111 h9 => ?_)
          have hf := lb_e h9 hf
          refine va_put (D := (dC, dI)) (ci := 10) (v := .int t111) (ty := .int) (C := RX10) (T := TX10) (N := 37) hx hb htg inX10 tyX10 tyX10_ok nmX10 hown hE.1 hP hD hS 0 rfl rfl 24 (by decide) (htg _ tw1406) (fun _ h9 => h9) rfl (by decide +kernel) rfl rfl (Nat.le_of_ble_eq_true rfl) dX10_feed_111 (fun H locs hP hD hS => ?_)
          have hP : va_P (dC, dI) vwCl [(ad 0, .inr (10, oM ad m_undoCount (0 : Int32) m_hasSnapshot a_m_fam m_rows m_lineLength m_formattedLength t111 m_limit m_next m_beginsAt m_token m_error m_errorAt m_errorPosition m_nested m_codeCount)), ((ad 24), .inl (cI, 800, .inl g103))] H := hP
          have hD : va_D A [(ad 0, .inr (10, oM ad m_undoCount (0 : Int32) m_hasSnapshot a_m_fam m_rows m_lineLength m_formattedLength t111 m_limit m_next m_beginsAt m_token m_error m_errorAt m_errorPosition m_nested m_codeCount)), ((ad 24), .inl (cI, 800, .inl g103))] := hD
          obtain ⟨t114, h9⟩ : ∃ z : Int32, z = (v6_23 + (1 : Int32)) := ⟨_, rfl⟩
          have hf := lb_e h9 hf
          refine lv_iinc (v := t114) (lv' := [(6, .int t114), (0, .ref (ad 0)), (1, .int v1), (2, .int v2), (3, .int v3), (4, .int v4), (5, .int v5), (7, .int v7_78)]) hx hb dX10_feed_114 hl (k := 6) rfl (by rw [h9]; rfl) (by decide) rfl (fun ls hl => ?_)
          refine lv_goto (tgt := 23) hx hb dX10_feed_117 (by decide) ?_
          exact ih23 t114 g103 t111 ex23 H locs ls hf hk23 hP hD hS (lv_sub hl [1, 2, 3, 4, 5, 6, 0] rfl)
        refine lv_iload hx hb dX10_feed_23 (lv_at hl 6 rfl) ?_
        refine lv_bipush (v := 20) hx hb dX10_feed_25 (by decide) ?_
        refine lv_icmp_ge (tgt := 120) hx hb dX10_feed_27 (by decide) (fun h9 => ?_) (fun h9 => ?_)
        · have hf := itt h9 hf
          cases hf
          have hf := hk23
          have hf := uc2_e hf
          exact J120 (0 : Int32) m_bufferLength_23 m_buffer_23 H locs ls hf hP hD hS (lv_sub hl [0] rfl)
        · have hf := itf h9 hf
          refine lv_iload hx hb dX10_feed_30 (lv_at hl 6 rfl) ?_
          refine lv_iconst (v := 4) hx hb dX10_feed_32 (by decide) ?_
          refine lv_icmp_ge (tgt := 40) hx hb dX10_feed_33 (by decide) (fun h9 => ?_) (fun h9 => ?_)
          · have hf := itt h9 hf
            refine lv_iload hx hb dX10_feed_40 (lv_at hl 6 rfl) ?_
            refine lv_bipush (v := 8) hx hb dX10_feed_42 (by decide) ?_
            refine lv_icmp_ge (tgt := 51) hx hb dX10_feed_44 (by decide) (fun h9 => ?_) (fun h9 => ?_)
            · have hf := itt h9 hf
              refine lv_iload hx hb dX10_feed_51 (lv_at hl 6 rfl) ?_
              refine lv_bipush (v := 12) hx hb dX10_feed_53 (by decide) ?_
              refine lv_icmp_ge (tgt := 62) hx hb dX10_feed_55 (by decide) (fun h9 => ?_) (fun h9 => ?_)
              · have hf := itt h9 hf
                refine lv_iload hx hb dX10_feed_62 (lv_at hl 6 rfl) ?_
                refine lv_bipush (v := 16) hx hb dX10_feed_64 (by decide) ?_
                refine lv_icmp_ge (tgt := 74) hx hb dX10_feed_66 (by decide) (fun h9 => ?_) (fun h9 => ?_)
                · have hf := itt h9 hf
                  refine lv_iload hx hb dX10_feed_74 (lv_at hl 5 rfl) ?_
                  refine lv_istore (lv' := [(7, .int v5), (0, .ref (ad 0)), (1, .int v1), (2, .int v2), (3, .int v3), (4, .int v4), (5, .int v5), (6, .int v6_23)]) hx hb dX10_feed_76 hl (by decide) rfl (fun ls hl => ?_)
                  exact J78 v5 H locs ls hf hP hD hS (lv_sub hl [1, 2, 3, 4, 5, 6, 7, 0] rfl)
                · have hf := itf h9 hf
                  refine lv_iload hx hb dX10_feed_69 (lv_at hl 4 rfl) ?_
                  refine lv_goto (tgt := 76) hx hb dX10_feed_71 (by decide) ?_
                  refine lv_istore (lv' := [(7, .int v4), (0, .ref (ad 0)), (1, .int v1), (2, .int v2), (3, .int v3), (4, .int v4), (5, .int v5), (6, .int v6_23)]) hx hb dX10_feed_76 hl (by decide) rfl (fun ls hl => ?_)
                  exact J78 v4 H locs ls hf hP hD hS (lv_sub hl [1, 2, 3, 4, 5, 6, 7, 0] rfl)
              · have hf := itf h9 hf
                refine lv_iload_n hx hb dX10_feed_58 rfl (lv_at hl 3 rfl) ?_
                refine lv_goto (tgt := 76) hx hb dX10_feed_59 (by decide) ?_
                refine lv_istore (lv' := [(7, .int v3), (0, .ref (ad 0)), (1, .int v1), (2, .int v2), (3, .int v3), (4, .int v4), (5, .int v5), (6, .int v6_23)]) hx hb dX10_feed_76 hl (by decide) rfl (fun ls hl => ?_)
                exact J78 v3 H locs ls hf hP hD hS (lv_sub hl [1, 2, 3, 4, 5, 6, 7, 0] rfl)
            · have hf := itf h9 hf
              refine lv_iload_n hx hb dX10_feed_47 rfl (lv_at hl 2 rfl) ?_
              refine lv_goto (tgt := 76) hx hb dX10_feed_48 (by decide) ?_
              refine lv_istore (lv' := [(7, .int v2), (0, .ref (ad 0)), (1, .int v1), (2, .int v2), (3, .int v3), (4, .int v4), (5, .int v5), (6, .int v6_23)]) hx hb dX10_feed_76 hl (by decide) rfl (fun ls hl => ?_)
              exact J78 v2 H locs ls hf hP hD hS (lv_sub hl [1, 2, 3, 4, 5, 6, 7, 0] rfl)
          · have hf := itf h9 hf
            refine lv_iload_n hx hb dX10_feed_36 rfl (lv_at hl 1 rfl) ?_
            refine lv_goto (tgt := 76) hx hb dX10_feed_37 (by decide) ?_
            refine lv_istore (lv' := [(7, .int v1), (0, .ref (ad 0)), (1, .int v1), (2, .int v2), (3, .int v3), (4, .int v4), (5, .int v5), (6, .int v6_23)]) hx hb dX10_feed_76 hl (by decide) rfl (fun ls hl => ?_)
            exact J78 v1 H locs ls hf hP hD hS (lv_sub hl [1, 2, 3, 4, 5, 6, 7, 0] rfl)
    obtain ⟨ex, h9, hf⟩ := ob_s hf
    exact K23 FU (0 : Int32) m_buffer m_bufferLength ex H locs ls h9 hf hP hD hS (lv_sub hl [1, 2, 3, 4, 5, 6, 0] rfl)
  · have hf := itf h9 hf
    refine lv_iconst (v := -1) hx hb dX10_feed_18 (by decide) ?_
    cases hf
    exact g_iret S hr hlocks hP hD hS dX10_feed_19
def p10_errorPosition (m_errorPosition : Int32) : Int32 × Int32 := (m_errorPosition, (0 : Int32))
set_option maxHeartbeats 4000000 in
set_option maxRecDepth 100000 in
theorem c_X10_errorPosition (ad : Nat → Nat) (a_m_fam : Nat) (m_undoCount : Int32) (m_thrown : Int32) (m_hasSnapshot : Bool) (m_rows : Int32) (m_lineLength : Int32) (m_formattedLength : Int32) (m_bufferLength : Int32) (m_limit : Int32) (m_next : Int32) (m_beginsAt : Int32) (m_token : Int32) (m_error : Int32) (m_errorAt : Int32) (m_errorPosition : Int32) (m_nested : Int32) (m_codeCount : Int32) (r9 : Int32) (m_thrown_9 : Int32) (hf : p10_errorPosition m_errorPosition = (r9, m_thrown_9)) : gM l dC dI cI cJ cZ yX10_errorPosition cX10_errorPosition 1 (some .int) (0) (0) [.ref (ad 0)] [(ad 0, .inr (10, oM ad m_undoCount m_thrown m_hasSnapshot a_m_fam m_rows m_lineLength m_formattedLength m_bufferLength m_limit m_next m_beginsAt m_token m_error m_errorAt m_errorPosition m_nested m_codeCount))] [(ad 0, .inr (10, oM ad m_undoCount m_thrown_9 m_hasSnapshot a_m_fam m_rows m_lineLength m_formattedLength m_bufferLength m_limit m_next m_beginsAt m_token m_error m_errorAt m_errorPosition m_nested m_codeCount))] (some (.int r9)) := by
  refine g_start (own := RX10) (by decide +kernel) rfl (Nat.le_of_ble_eq_true rfl) ?_
  intro p e s m below meth c A ls S hr hlocks hE hP hD hS hA hl hin
  have hx := S.1
  have hb := S.2.1
  have hml := S.2.2.1
  have hown := S.2.2.2.1
  have htg : ∀ z ∈ gw, z.before ([.ref (ad 0)] : List Value).toArray s = true := fun w h => S.2.2.2.2 w (List.mem_cons_of_mem _ h)
  have hl : lv_has ls 1 [(0, .ref (ad 0))] := hl
  have hS0 := hS
  obtain ⟨H, hH⟩ : ∃ H, H = s.heap := ⟨_, rfl⟩
  obtain ⟨locs, hlc⟩ : ∃ locs : List Loc, locs = [] := ⟨_, rfl⟩
  have hS : va_S A s.heap H locs := by rw [hH, hlc]; exact hS0
  have hP : va_P (dC, dI) vwCl [(ad 0, .inr (10, oM ad m_undoCount m_thrown m_hasSnapshot a_m_fam m_rows m_lineLength m_formattedLength m_bufferLength m_limit m_next m_beginsAt m_token m_error m_errorAt m_errorPosition m_nested m_codeCount))] H := by rw [hH]; exact hP
  suffices hgo : W p l e ({ frames := 0, cells := 0, slots := 0, locals := 0 }) s m ([.ref (ad 0)] : List Value).toArray below meth c H locs 0 0 (MQ below (gQ dC dI (some (.int r9)) A [(ad 0, .inr (10, oM ad m_undoCount m_thrown_9 m_hasSnapshot a_m_fam m_rows m_lineLength m_formattedLength m_bufferLength m_limit m_next m_beginsAt m_token m_error m_errorAt m_errorPosition m_nested m_codeCount))]) ([.ref (ad 0)] : List Value).toArray s 0 0 A) (F0 m 0 ls []) by rw [hH, hlc] at hgo; exact hgo
  rw [p10_errorPosition] at hf
  refine lv_aload_n hx hb dX10_errorPosition_0 rfl (lv_at hl 0 rfl) ?_
  refine lv_iconst (v := 0) hx hb dX10_errorPosition_1 (by decide) ?_
  refine va_put (D := (dC, dI)) (ci := 10) (v := .int (0 : Int32)) (ty := .int) (C := RX10) (T := TX10) (N := 37) hx hb htg inX10 tyX10 tyX10_ok nmX10 hown hE.1 hP hD hS 0 rfl rfl 5 (by decide) (htg _ tw1387) (fun _ h9 => h9) rfl (by decide +kernel) rfl rfl (Nat.le_of_ble_eq_true rfl) dX10_errorPosition_2 (fun H locs hP hD hS => ?_)
  have hP : va_P (dC, dI) vwCl [(ad 0, .inr (10, oM ad m_undoCount (0 : Int32) m_hasSnapshot a_m_fam m_rows m_lineLength m_formattedLength m_bufferLength m_limit m_next m_beginsAt m_token m_error m_errorAt m_errorPosition m_nested m_codeCount))] H := hP
  have hD : va_D A [(ad 0, .inr (10, oM ad m_undoCount (0 : Int32) m_hasSnapshot a_m_fam m_rows m_lineLength m_formattedLength m_bufferLength m_limit m_next m_beginsAt m_token m_error m_errorAt m_errorPosition m_nested m_codeCount))] := hD
  refine lv_aload_n hx hb dX10_errorPosition_5 rfl (lv_at hl 0 rfl) ?_
  refine va_get (D := (dC, dI)) (ci := 10) (v := .int m_errorPosition) (C := RX10) (T := TX10) (N := 37) hx hb htg inX10 hown hE.1 hP 0 rfl rfl 31 (by decide) (htg _ tw1413) (fun _ h9 => h9) rfl dX10_errorPosition_6 ?_
  cases hf
  exact g_iret S hr hlocks hP hD hS dX10_errorPosition_9
def p10_byteAt (m_limit : Int32) (m_buffer : Nat → Int32) (v1 : Int32) : Option (Int32) := (if m_limit ≤ v1 then some (-1 : Int32) else gd v1 800 (some (m_buffer v1.toNatClampNeg)))
set_option maxHeartbeats 4000000 in
set_option maxRecDepth 100000 in
theorem c_X10_byteAt (ad : Nat → Nat) (a_m_fam : Nat) (m_undoCount : Int32) (m_thrown : Int32) (m_hasSnapshot : Bool) (m_rows : Int32) (m_lineLength : Int32) (m_formattedLength : Int32) (m_bufferLength : Int32) (m_limit : Int32) (m_next : Int32) (m_beginsAt : Int32) (m_token : Int32) (m_error : Int32) (m_errorAt : Int32) (m_errorPosition : Int32) (m_nested : Int32) (m_codeCount : Int32) (m_buffer : Nat → Int32) (v1 : Int32) (r9 : Int32) (hf : p10_byteAt m_limit m_buffer v1 = some r9) : gM l dC dI cI cJ cZ yX10_byteAt cX10_byteAt 2 (some .int) (0) (0) [.ref (ad 0), .int v1] [(ad 0, .inr (10, oM ad m_undoCount m_thrown m_hasSnapshot a_m_fam m_rows m_lineLength m_formattedLength m_bufferLength m_limit m_next m_beginsAt m_token m_error m_errorAt m_errorPosition m_nested m_codeCount)), ((ad 24), .inl (cI, 800, .inl m_buffer))] [(ad 0, .inr (10, oM ad m_undoCount m_thrown m_hasSnapshot a_m_fam m_rows m_lineLength m_formattedLength m_bufferLength m_limit m_next m_beginsAt m_token m_error m_errorAt m_errorPosition m_nested m_codeCount)), ((ad 24), .inl (cI, 800, .inl m_buffer))] (some (.int r9)) := by
  refine g_start (own := RX10) (by decide +kernel) rfl (Nat.le_of_ble_eq_true rfl) ?_
  intro p e s m below meth c A ls S hr hlocks hE hP hD hS hA hl hin
  have hx := S.1
  have hb := S.2.1
  have hml := S.2.2.1
  have hown := S.2.2.2.1
  have htg : ∀ z ∈ gw, z.before ([.ref (ad 0), .int v1] : List Value).toArray s = true := fun w h => S.2.2.2.2 w (List.mem_cons_of_mem _ h)
  have hl : lv_has ls 2 [(0, .ref (ad 0)), (1, .int v1)] := hl
  have hS0 := hS
  obtain ⟨H, hH⟩ : ∃ H, H = s.heap := ⟨_, rfl⟩
  obtain ⟨locs, hlc⟩ : ∃ locs : List Loc, locs = [] := ⟨_, rfl⟩
  have hS : va_S A s.heap H locs := by rw [hH, hlc]; exact hS0
  have hP : va_P (dC, dI) vwCl [(ad 0, .inr (10, oM ad m_undoCount m_thrown m_hasSnapshot a_m_fam m_rows m_lineLength m_formattedLength m_bufferLength m_limit m_next m_beginsAt m_token m_error m_errorAt m_errorPosition m_nested m_codeCount)), ((ad 24), .inl (cI, 800, .inl m_buffer))] H := by rw [hH]; exact hP
  suffices hgo : W p l e ({ frames := 0, cells := 0, slots := 0, locals := 0 }) s m ([.ref (ad 0), .int v1] : List Value).toArray below meth c H locs 0 0 (MQ below (gQ dC dI (some (.int r9)) A [(ad 0, .inr (10, oM ad m_undoCount m_thrown m_hasSnapshot a_m_fam m_rows m_lineLength m_formattedLength m_bufferLength m_limit m_next m_beginsAt m_token m_error m_errorAt m_errorPosition m_nested m_codeCount)), ((ad 24), .inl (cI, 800, .inl m_buffer))]) ([.ref (ad 0), .int v1] : List Value).toArray s 0 0 A) (F0 m 0 ls []) by rw [hH, hlc] at hgo; exact hgo
  rw [p10_byteAt] at hf
  refine lv_iload_n hx hb dX10_byteAt_0 rfl (lv_at hl 1 rfl) ?_
  refine lv_aload_n hx hb dX10_byteAt_1 rfl (lv_at hl 0 rfl) ?_
  refine va_get (D := (dC, dI)) (ci := 10) (v := .int m_limit) (C := RX10) (T := TX10) (N := 37) hx hb htg inX10 hown hE.1 hP 0 rfl rfl 25 (by decide) (htg _ tw1407) (fun _ h9 => h9) rfl dX10_byteAt_2 ?_
  refine lv_icmp_ge (tgt := 17) hx hb dX10_byteAt_5 (by decide) (fun h9 => ?_) (fun h9 => ?_)
  · have hf := itt h9 hf
    refine lv_iconst (v := -1) hx hb dX10_byteAt_17 (by decide) ?_
    cases hf
    exact g_iret S hr hlocks hP hD hS dX10_byteAt_18
  · have hf := itf h9 hf
    refine lv_aload_n hx hb dX10_byteAt_8 rfl (lv_at hl 0 rfl) ?_
    refine va_get (D := (dC, dI)) (ci := 10) (v := .ref (ad 24)) (C := RX10) (T := TX10) (N := 37) hx hb htg inX10 hown hE.1 hP 0 rfl rfl 23 (by decide) (htg _ tw1405) (fun _ h9 => h9) rfl dX10_byteAt_9 ?_
    refine lv_iload_n hx hb dX10_byteAt_12 rfl (lv_at hl 1 rfl) ?_
    obtain ⟨h9, hf⟩ := gd_s hf
    refine va_iald hx hb hE.1 hP 1 0 rfl rfl h9 dX10_byteAt_13 ?_
    refine lv_goto (tgt := 18) hx hb dX10_byteAt_14 (by decide) ?_
    cases hf
    exact g_iret S hr hlocks hP hD hS dX10_byteAt_18
def p10_isLetter (m_limit : Int32) (m_buffer : Nat → Int32) (v1 : Int32) : Option (Bool) := ob (p10_byteAt m_limit m_buffer v1) (fun r2 => (if r2 < (97 : Int32) then some false else ob (p10_byteAt m_limit m_buffer v1) (fun r12 => (if (122 : Int32) < r12 then some false else some true))))
set_option maxHeartbeats 4000000 in
set_option maxRecDepth 100000 in
theorem c_X10_isLetter (ad : Nat → Nat) (a_m_fam : Nat) (m_undoCount : Int32) (m_thrown : Int32) (m_hasSnapshot : Bool) (m_rows : Int32) (m_lineLength : Int32) (m_formattedLength : Int32) (m_bufferLength : Int32) (m_limit : Int32) (m_next : Int32) (m_beginsAt : Int32) (m_token : Int32) (m_error : Int32) (m_errorAt : Int32) (m_errorPosition : Int32) (m_nested : Int32) (m_codeCount : Int32) (m_buffer : Nat → Int32) (v1 : Int32) (r9 : Bool) (hf : p10_isLetter m_limit m_buffer v1 = some r9) : gM l dC dI cI cJ cZ yX10_isLetter cX10_isLetter 2 (some .boolean) (1) (21) [.ref (ad 0), .int v1] [(ad 0, .inr (10, oM ad m_undoCount m_thrown m_hasSnapshot a_m_fam m_rows m_lineLength m_formattedLength m_bufferLength m_limit m_next m_beginsAt m_token m_error m_errorAt m_errorPosition m_nested m_codeCount)), ((ad 24), .inl (cI, 800, .inl m_buffer))] [(ad 0, .inr (10, oM ad m_undoCount m_thrown m_hasSnapshot a_m_fam m_rows m_lineLength m_formattedLength m_bufferLength m_limit m_next m_beginsAt m_token m_error m_errorAt m_errorPosition m_nested m_codeCount)), ((ad 24), .inl (cI, 800, .inl m_buffer))] (some (.int (bI r9))) := by
  refine g_start (own := RX10) (by decide +kernel) rfl (Nat.le_of_ble_eq_true rfl) ?_
  intro p e s m below meth c A ls S hr hlocks hE hP hD hS hA hl hin
  have hx := S.1
  have hb := S.2.1
  have hml := S.2.2.1
  have hown := S.2.2.2.1
  have htg : ∀ z ∈ gw, z.before ([.ref (ad 0), .int v1] : List Value).toArray s = true := fun w h => S.2.2.2.2 w (List.mem_cons_of_mem _ h)
  have hl : lv_has ls 2 [(0, .ref (ad 0)), (1, .int v1)] := hl
  have hS0 := hS
  obtain ⟨H, hH⟩ : ∃ H, H = s.heap := ⟨_, rfl⟩
  obtain ⟨locs, hlc⟩ : ∃ locs : List Loc, locs = [] := ⟨_, rfl⟩
  have hS : va_S A s.heap H locs := by rw [hH, hlc]; exact hS0
  have hP : va_P (dC, dI) vwCl [(ad 0, .inr (10, oM ad m_undoCount m_thrown m_hasSnapshot a_m_fam m_rows m_lineLength m_formattedLength m_bufferLength m_limit m_next m_beginsAt m_token m_error m_errorAt m_errorPosition m_nested m_codeCount)), ((ad 24), .inl (cI, 800, .inl m_buffer))] H := by rw [hH]; exact hP
  suffices hgo : W p l e ({ frames := 1, cells := 0, slots := 0, locals := 21 }) s m ([.ref (ad 0), .int v1] : List Value).toArray below meth c H locs 0 0 (MQ below (gQ dC dI (some (.int (bI r9))) A [(ad 0, .inr (10, oM ad m_undoCount m_thrown m_hasSnapshot a_m_fam m_rows m_lineLength m_formattedLength m_bufferLength m_limit m_next m_beginsAt m_token m_error m_errorAt m_errorPosition m_nested m_codeCount)), ((ad 24), .inl (cI, 800, .inl m_buffer))]) ([.ref (ad 0), .int v1] : List Value).toArray s 0 0 A) (F0 m 0 ls []) by rw [hH, hlc] at hgo; exact hgo
  rw [p10_isLetter] at hf
  refine lv_aload_n hx hb dX10_isLetter_0 rfl (lv_at hl 0 rfl) ?_
  refine lv_iload_n hx hb dX10_isLetter_1 rfl (lv_at hl 1 rfl) ?_
  obtain ⟨r2, h9, hf⟩ := ob_s hf
  refine gcV (index := 371) S hE (c_X10_byteAt ad a_m_fam m_undoCount m_thrown m_hasSnapshot m_rows m_lineLength m_formattedLength m_bufferLength m_limit m_next m_beginsAt m_token m_error m_errorAt m_errorPosition m_nested m_codeCount m_buffer v1 r2 h9) mX10_byteAt tw1942 ⟨Nat.le_of_ble_eq_true rfl, Nat.le_of_ble_eq_true rfl⟩ hP hD hS hA ⟨Nat.zero_le _, Nat.zero_le _⟩ 0 10 rfl rfl rfl (wr := []) [0, 1] [] rfl rfl rfl rfl (by decide) (As := [.int v1]) (rest := []) rfl hl.1 rfl (Nat.le_of_ble_eq_true rfl) dX10_isLetter_2 (fun H locs hP hD hS => ?_)
  refine W.eq (g2 := F0 m 5 ls [.int r2]) rfl ?_
  have hP : va_P (dC, dI) vwCl [(ad 0, .inr (10, oM ad m_undoCount m_thrown m_hasSnapshot a_m_fam m_rows m_lineLength m_formattedLength m_bufferLength m_limit m_next m_beginsAt m_token m_error m_errorAt m_errorPosition m_nested m_codeCount)), ((ad 24), .inl (cI, 800, .inl m_buffer))] H := hP
  have hD : va_D A [(ad 0, .inr (10, oM ad m_undoCount m_thrown m_hasSnapshot a_m_fam m_rows m_lineLength m_formattedLength m_bufferLength m_limit m_next m_beginsAt m_token m_error m_errorAt m_errorPosition m_nested m_codeCount)), ((ad 24), .inl (cI, 800, .inl m_buffer))] := hD
  refine lv_bipush (v := 97) hx hb dX10_isLetter_5 (by decide) ?_
  refine lv_icmp_lt (tgt := 24) hx hb dX10_isLetter_7 (by decide) (fun h9 => ?_) (fun h9 => ?_)
  · have hf := itt h9 hf
    refine lv_iconst (v := 0) hx hb dX10_isLetter_24 (by decide) ?_
    cases hf
    exact g_zret S hr (nar_bI false) hlocks hP hD hS dX10_isLetter_25
  · have hf := itf h9 hf
    refine lv_aload_n hx hb dX10_isLetter_10 rfl (lv_at hl 0 rfl) ?_
    refine lv_iload_n hx hb dX10_isLetter_11 rfl (lv_at hl 1 rfl) ?_
    obtain ⟨r12, h9, hf⟩ := ob_s hf
    refine gcV (index := 371) S hE (c_X10_byteAt ad a_m_fam m_undoCount m_thrown m_hasSnapshot m_rows m_lineLength m_formattedLength m_bufferLength m_limit m_next m_beginsAt m_token m_error m_errorAt m_errorPosition m_nested m_codeCount m_buffer v1 r12 h9) mX10_byteAt tw1942 ⟨Nat.le_of_ble_eq_true rfl, Nat.le_of_ble_eq_true rfl⟩ hP hD hS hA ⟨Nat.zero_le _, Nat.zero_le _⟩ 0 10 rfl rfl rfl (wr := []) [0, 1] [] rfl rfl rfl rfl (by decide) (As := [.int v1]) (rest := []) rfl hl.1 rfl (Nat.le_of_ble_eq_true rfl) dX10_isLetter_12 (fun H locs hP hD hS => ?_)
    refine W.eq (g2 := F0 m 15 ls [.int r12]) rfl ?_
    have hP : va_P (dC, dI) vwCl [(ad 0, .inr (10, oM ad m_undoCount m_thrown m_hasSnapshot a_m_fam m_rows m_lineLength m_formattedLength m_bufferLength m_limit m_next m_beginsAt m_token m_error m_errorAt m_errorPosition m_nested m_codeCount)), ((ad 24), .inl (cI, 800, .inl m_buffer))] H := hP
    have hD : va_D A [(ad 0, .inr (10, oM ad m_undoCount m_thrown m_hasSnapshot a_m_fam m_rows m_lineLength m_formattedLength m_bufferLength m_limit m_next m_beginsAt m_token m_error m_errorAt m_errorPosition m_nested m_codeCount)), ((ad 24), .inl (cI, 800, .inl m_buffer))] := hD
    refine lv_bipush (v := 122) hx hb dX10_isLetter_15 (by decide) ?_
    refine lv_icmp_gt (tgt := 24) hx hb dX10_isLetter_17 (by decide) (fun h9 => ?_) (fun h9 => ?_)
    · have hf := itt h9 hf
      refine lv_iconst (v := 0) hx hb dX10_isLetter_24 (by decide) ?_
      cases hf
      exact g_zret S hr (nar_bI false) hlocks hP hD hS dX10_isLetter_25
    · have hf := itf h9 hf
      refine lv_iconst (v := 1) hx hb dX10_isLetter_20 (by decide) ?_
      refine lv_goto (tgt := 25) hx hb dX10_isLetter_21 (by decide) ?_
      cases hf
      exact g_zret S hr (nar_bI true) hlocks hP hD hS dX10_isLetter_25
def p10_isDigit (m_limit : Int32) (m_buffer : Nat → Int32) (v1 : Int32) : Option (Bool) := ob (p10_byteAt m_limit m_buffer v1) (fun r2 => (if r2 < (48 : Int32) then some false else ob (p10_byteAt m_limit m_buffer v1) (fun r12 => (if (57 : Int32) < r12 then some false else some true))))
set_option maxHeartbeats 4000000 in
set_option maxRecDepth 100000 in
theorem c_X10_isDigit (ad : Nat → Nat) (a_m_fam : Nat) (m_undoCount : Int32) (m_thrown : Int32) (m_hasSnapshot : Bool) (m_rows : Int32) (m_lineLength : Int32) (m_formattedLength : Int32) (m_bufferLength : Int32) (m_limit : Int32) (m_next : Int32) (m_beginsAt : Int32) (m_token : Int32) (m_error : Int32) (m_errorAt : Int32) (m_errorPosition : Int32) (m_nested : Int32) (m_codeCount : Int32) (m_buffer : Nat → Int32) (v1 : Int32) (r9 : Bool) (hf : p10_isDigit m_limit m_buffer v1 = some r9) : gM l dC dI cI cJ cZ yX10_isDigit cX10_isDigit 2 (some .boolean) (1) (21) [.ref (ad 0), .int v1] [(ad 0, .inr (10, oM ad m_undoCount m_thrown m_hasSnapshot a_m_fam m_rows m_lineLength m_formattedLength m_bufferLength m_limit m_next m_beginsAt m_token m_error m_errorAt m_errorPosition m_nested m_codeCount)), ((ad 24), .inl (cI, 800, .inl m_buffer))] [(ad 0, .inr (10, oM ad m_undoCount m_thrown m_hasSnapshot a_m_fam m_rows m_lineLength m_formattedLength m_bufferLength m_limit m_next m_beginsAt m_token m_error m_errorAt m_errorPosition m_nested m_codeCount)), ((ad 24), .inl (cI, 800, .inl m_buffer))] (some (.int (bI r9))) := by
  refine g_start (own := RX10) (by decide +kernel) rfl (Nat.le_of_ble_eq_true rfl) ?_
  intro p e s m below meth c A ls S hr hlocks hE hP hD hS hA hl hin
  have hx := S.1
  have hb := S.2.1
  have hml := S.2.2.1
  have hown := S.2.2.2.1
  have htg : ∀ z ∈ gw, z.before ([.ref (ad 0), .int v1] : List Value).toArray s = true := fun w h => S.2.2.2.2 w (List.mem_cons_of_mem _ h)
  have hl : lv_has ls 2 [(0, .ref (ad 0)), (1, .int v1)] := hl
  have hS0 := hS
  obtain ⟨H, hH⟩ : ∃ H, H = s.heap := ⟨_, rfl⟩
  obtain ⟨locs, hlc⟩ : ∃ locs : List Loc, locs = [] := ⟨_, rfl⟩
  have hS : va_S A s.heap H locs := by rw [hH, hlc]; exact hS0
  have hP : va_P (dC, dI) vwCl [(ad 0, .inr (10, oM ad m_undoCount m_thrown m_hasSnapshot a_m_fam m_rows m_lineLength m_formattedLength m_bufferLength m_limit m_next m_beginsAt m_token m_error m_errorAt m_errorPosition m_nested m_codeCount)), ((ad 24), .inl (cI, 800, .inl m_buffer))] H := by rw [hH]; exact hP
  suffices hgo : W p l e ({ frames := 1, cells := 0, slots := 0, locals := 21 }) s m ([.ref (ad 0), .int v1] : List Value).toArray below meth c H locs 0 0 (MQ below (gQ dC dI (some (.int (bI r9))) A [(ad 0, .inr (10, oM ad m_undoCount m_thrown m_hasSnapshot a_m_fam m_rows m_lineLength m_formattedLength m_bufferLength m_limit m_next m_beginsAt m_token m_error m_errorAt m_errorPosition m_nested m_codeCount)), ((ad 24), .inl (cI, 800, .inl m_buffer))]) ([.ref (ad 0), .int v1] : List Value).toArray s 0 0 A) (F0 m 0 ls []) by rw [hH, hlc] at hgo; exact hgo
  rw [p10_isDigit] at hf
  refine lv_aload_n hx hb dX10_isDigit_0 rfl (lv_at hl 0 rfl) ?_
  refine lv_iload_n hx hb dX10_isDigit_1 rfl (lv_at hl 1 rfl) ?_
  obtain ⟨r2, h9, hf⟩ := ob_s hf
  refine gcV (index := 371) S hE (c_X10_byteAt ad a_m_fam m_undoCount m_thrown m_hasSnapshot m_rows m_lineLength m_formattedLength m_bufferLength m_limit m_next m_beginsAt m_token m_error m_errorAt m_errorPosition m_nested m_codeCount m_buffer v1 r2 h9) mX10_byteAt tw1942 ⟨Nat.le_of_ble_eq_true rfl, Nat.le_of_ble_eq_true rfl⟩ hP hD hS hA ⟨Nat.zero_le _, Nat.zero_le _⟩ 0 10 rfl rfl rfl (wr := []) [0, 1] [] rfl rfl rfl rfl (by decide) (As := [.int v1]) (rest := []) rfl hl.1 rfl (Nat.le_of_ble_eq_true rfl) dX10_isDigit_2 (fun H locs hP hD hS => ?_)
  refine W.eq (g2 := F0 m 5 ls [.int r2]) rfl ?_
  have hP : va_P (dC, dI) vwCl [(ad 0, .inr (10, oM ad m_undoCount m_thrown m_hasSnapshot a_m_fam m_rows m_lineLength m_formattedLength m_bufferLength m_limit m_next m_beginsAt m_token m_error m_errorAt m_errorPosition m_nested m_codeCount)), ((ad 24), .inl (cI, 800, .inl m_buffer))] H := hP
  have hD : va_D A [(ad 0, .inr (10, oM ad m_undoCount m_thrown m_hasSnapshot a_m_fam m_rows m_lineLength m_formattedLength m_bufferLength m_limit m_next m_beginsAt m_token m_error m_errorAt m_errorPosition m_nested m_codeCount)), ((ad 24), .inl (cI, 800, .inl m_buffer))] := hD
  refine lv_bipush (v := 48) hx hb dX10_isDigit_5 (by decide) ?_
  refine lv_icmp_lt (tgt := 24) hx hb dX10_isDigit_7 (by decide) (fun h9 => ?_) (fun h9 => ?_)
  · have hf := itt h9 hf
    refine lv_iconst (v := 0) hx hb dX10_isDigit_24 (by decide) ?_
    cases hf
    exact g_zret S hr (nar_bI false) hlocks hP hD hS dX10_isDigit_25
  · have hf := itf h9 hf
    refine lv_aload_n hx hb dX10_isDigit_10 rfl (lv_at hl 0 rfl) ?_
    refine lv_iload_n hx hb dX10_isDigit_11 rfl (lv_at hl 1 rfl) ?_
    obtain ⟨r12, h9, hf⟩ := ob_s hf
    refine gcV (index := 371) S hE (c_X10_byteAt ad a_m_fam m_undoCount m_thrown m_hasSnapshot m_rows m_lineLength m_formattedLength m_bufferLength m_limit m_next m_beginsAt m_token m_error m_errorAt m_errorPosition m_nested m_codeCount m_buffer v1 r12 h9) mX10_byteAt tw1942 ⟨Nat.le_of_ble_eq_true rfl, Nat.le_of_ble_eq_true rfl⟩ hP hD hS hA ⟨Nat.zero_le _, Nat.zero_le _⟩ 0 10 rfl rfl rfl (wr := []) [0, 1] [] rfl rfl rfl rfl (by decide) (As := [.int v1]) (rest := []) rfl hl.1 rfl (Nat.le_of_ble_eq_true rfl) dX10_isDigit_12 (fun H locs hP hD hS => ?_)
    refine W.eq (g2 := F0 m 15 ls [.int r12]) rfl ?_
    have hP : va_P (dC, dI) vwCl [(ad 0, .inr (10, oM ad m_undoCount m_thrown m_hasSnapshot a_m_fam m_rows m_lineLength m_formattedLength m_bufferLength m_limit m_next m_beginsAt m_token m_error m_errorAt m_errorPosition m_nested m_codeCount)), ((ad 24), .inl (cI, 800, .inl m_buffer))] H := hP
    have hD : va_D A [(ad 0, .inr (10, oM ad m_undoCount m_thrown m_hasSnapshot a_m_fam m_rows m_lineLength m_formattedLength m_bufferLength m_limit m_next m_beginsAt m_token m_error m_errorAt m_errorPosition m_nested m_codeCount)), ((ad 24), .inl (cI, 800, .inl m_buffer))] := hD
    refine lv_bipush (v := 57) hx hb dX10_isDigit_15 (by decide) ?_
    refine lv_icmp_gt (tgt := 24) hx hb dX10_isDigit_17 (by decide) (fun h9 => ?_) (fun h9 => ?_)
    · have hf := itt h9 hf
      refine lv_iconst (v := 0) hx hb dX10_isDigit_24 (by decide) ?_
      cases hf
      exact g_zret S hr (nar_bI false) hlocks hP hD hS dX10_isDigit_25
    · have hf := itf h9 hf
      refine lv_iconst (v := 1) hx hb dX10_isDigit_20 (by decide) ?_
      refine lv_goto (tgt := 25) hx hb dX10_isDigit_21 (by decide) ?_
      cases hf
      exact g_zret S hr (nar_bI true) hlocks hP hD hS dX10_isDigit_25
def p10_scan_J144 (m_next_144 : Int32) (m_beginsAt_144 : Int32) : Option (Int32 × Int32 × Int32) := some (m_beginsAt_144, m_next_144, (2 : Int32))
def p10_scan_J101 (m_next_101 : Int32) (m_beginsAt_101 : Int32) : Option (Int32 × Int32 × Int32) := some (m_beginsAt_101, m_next_101, (1 : Int32))
def p10_scan_L120_B (m_buffer : Nat → Int32) (m_limit : Int32) (k120 : Int32 → Option (Int32)) (m_next_120 : Int32) : Option (Int32) := ob (p10_isDigit m_limit m_buffer m_next_120) (fun r125 => (cond r125 (lb (m_next_120 + (1 : Int32)) (fun t138 => (k120 t138))) (some m_next_120)))
def p10_scan_L120 (m_buffer : Nat → Int32) (m_limit : Int32) : Nat → Int32 → Option (Int32)
  | 0, _ => none
  | n+1, m_next_120 => p10_scan_L120_B m_buffer m_limit (p10_scan_L120 m_buffer m_limit n) m_next_120
def p10_scan_L77_B (m_buffer : Nat → Int32) (m_limit : Int32) (k77 : Int32 → Option (Int32)) (m_next_77 : Int32) : Option (Int32) := ob (p10_isLetter m_limit m_buffer m_next_77) (fun r82 => (cond r82 (lb (m_next_77 + (1 : Int32)) (fun t95 => (k77 t95))) (some m_next_77)))
def p10_scan_L77 (m_buffer : Nat → Int32) (m_limit : Int32) : Nat → Int32 → Option (Int32)
  | 0, _ => none
  | n+1, m_next_77 => p10_scan_L77_B m_buffer m_limit (p10_scan_L77 m_buffer m_limit n) m_next_77
def p10_scan_J39 (m_buffer : Nat → Int32) (m_limit : Int32) (m_next_39 : Int32) : Option (Int32 × Int32 × Int32) := (if m_next_39 < m_limit then ob (p10_isLetter m_limit m_buffer m_next_39) (fun r71 => (cond r71 (ob (p10_scan_L77 m_buffer m_limit FU m_next_39) (fun m_next_x77 => p10_scan_J101 m_next_x77 m_next_39)) (ob (p10_isDigit m_limit m_buffer m_next_39) (fun r114 => (cond r114 (ob (p10_scan_L120 m_buffer m_limit FU m_next_39) (fun m_next_x120 => p10_scan_J144 m_next_x120 m_next_39)) (lb (m_next_39 + (1 : Int32)) (fun t159 => some (m_next_39, t159, (3 : Int32))))))))) else some (m_next_39, m_next_39, (0 : Int32)))
def p10_scan_J26 (k0 : Int32 → Option (Int32)) (m_next_0 : Int32) : Option (Int32) := lb (m_next_0 + (1 : Int32)) (fun t33 => (k0 t33))
def p10_scan_L0_B (m_buffer : Nat → Int32) (m_limit : Int32) (k0 : Int32 → Option (Int32)) (m_next_0 : Int32) : Option (Int32) := ob (p10_byteAt m_limit m_buffer m_next_0) (fun r5 => (if r5 = (32 : Int32) then (p10_scan_J26 k0 m_next_0) else ob (p10_byteAt m_limit m_buffer m_next_0) (fun r18 => (if r18 = (10 : Int32) then (p10_scan_J26 k0 m_next_0) else some m_next_0))))
def p10_scan_L0 (m_buffer : Nat → Int32) (m_limit : Int32) : Nat → Int32 → Option (Int32)
  | 0, _ => none
  | n+1, m_next_0 => p10_scan_L0_B m_buffer m_limit (p10_scan_L0 m_buffer m_limit n) m_next_0
def p10_scan (m_limit : Int32) (m_next : Int32) (m_buffer : Nat → Int32) : Option (Int32 × Int32 × Int32) := (ob (p10_scan_L0 m_buffer m_limit FU m_next) (fun m_next_x0 => p10_scan_J39 m_buffer m_limit m_next_x0))
set_option maxHeartbeats 4000000 in
set_option maxRecDepth 100000 in
theorem c_X10_scan (ad : Nat → Nat) (a_m_fam : Nat) (m_undoCount : Int32) (m_thrown : Int32) (m_hasSnapshot : Bool) (m_rows : Int32) (m_lineLength : Int32) (m_formattedLength : Int32) (m_bufferLength : Int32) (m_limit : Int32) (m_next : Int32) (m_beginsAt : Int32) (m_token : Int32) (m_error : Int32) (m_errorAt : Int32) (m_errorPosition : Int32) (m_nested : Int32) (m_codeCount : Int32) (m_buffer : Nat → Int32) (m_beginsAt_9 : Int32) (m_next_9 : Int32) (m_token_9 : Int32) (hf : p10_scan m_limit m_next m_buffer = some (m_beginsAt_9, m_next_9, m_token_9)) : gM l dC dI cI cJ cZ yX10_scan cX10_scan 1 none (2) (42) [.ref (ad 0)] [(ad 0, .inr (10, oM ad m_undoCount m_thrown m_hasSnapshot a_m_fam m_rows m_lineLength m_formattedLength m_bufferLength m_limit m_next m_beginsAt m_token m_error m_errorAt m_errorPosition m_nested m_codeCount)), ((ad 24), .inl (cI, 800, .inl m_buffer))] [(ad 0, .inr (10, oM ad m_undoCount m_thrown m_hasSnapshot a_m_fam m_rows m_lineLength m_formattedLength m_bufferLength m_limit m_next_9 m_beginsAt_9 m_token_9 m_error m_errorAt m_errorPosition m_nested m_codeCount)), ((ad 24), .inl (cI, 800, .inl m_buffer))] none := by
  refine g_start (own := RX10) (by decide +kernel) rfl (Nat.le_of_ble_eq_true rfl) ?_
  intro p e s m below meth c A ls S hr hlocks hE hP hD hS hA hl hin
  have hx := S.1
  have hb := S.2.1
  have hml := S.2.2.1
  have hown := S.2.2.2.1
  have htg : ∀ z ∈ gw, z.before ([.ref (ad 0)] : List Value).toArray s = true := fun w h => S.2.2.2.2 w (List.mem_cons_of_mem _ h)
  have hl : lv_has ls 1 [(0, .ref (ad 0))] := hl
  have hS0 := hS
  obtain ⟨H, hH⟩ : ∃ H, H = s.heap := ⟨_, rfl⟩
  obtain ⟨locs, hlc⟩ : ∃ locs : List Loc, locs = [] := ⟨_, rfl⟩
  have hS : va_S A s.heap H locs := by rw [hH, hlc]; exact hS0
  have hP : va_P (dC, dI) vwCl [(ad 0, .inr (10, oM ad m_undoCount m_thrown m_hasSnapshot a_m_fam m_rows m_lineLength m_formattedLength m_bufferLength m_limit m_next m_beginsAt m_token m_error m_errorAt m_errorPosition m_nested m_codeCount)), ((ad 24), .inl (cI, 800, .inl m_buffer))] H := by rw [hH]; exact hP
  suffices hgo : W p l e ({ frames := 2, cells := 0, slots := 0, locals := 42 }) s m ([.ref (ad 0)] : List Value).toArray below meth c H locs 0 0 (MQ below (gQ dC dI none A [(ad 0, .inr (10, oM ad m_undoCount m_thrown m_hasSnapshot a_m_fam m_rows m_lineLength m_formattedLength m_bufferLength m_limit m_next_9 m_beginsAt_9 m_token_9 m_error m_errorAt m_errorPosition m_nested m_codeCount)), ((ad 24), .inl (cI, 800, .inl m_buffer))]) ([.ref (ad 0)] : List Value).toArray s 0 0 A) (F0 m 0 ls []) by rw [hH, hlc] at hgo; exact hgo
  rw [p10_scan] at hf
  have J144 : ∀ (m_next_144 : Int32) (m_beginsAt_144 : Int32) (H : Heap) (locs : List Loc) (ls : Array Slot), p10_scan_J144 m_next_144 m_beginsAt_144 = some (m_beginsAt_9, m_next_9, m_token_9) → va_P (dC, dI) vwCl [(ad 0, .inr (10, oM ad m_undoCount m_thrown m_hasSnapshot a_m_fam m_rows m_lineLength m_formattedLength m_bufferLength m_limit m_next_144 m_beginsAt_144 m_token m_error m_errorAt m_errorPosition m_nested m_codeCount)), ((ad 24), .inl (cI, 800, .inl m_buffer))] H → va_D A [(ad 0, .inr (10, oM ad m_undoCount m_thrown m_hasSnapshot a_m_fam m_rows m_lineLength m_formattedLength m_bufferLength m_limit m_next_144 m_beginsAt_144 m_token m_error m_errorAt m_errorPosition m_nested m_codeCount)), ((ad 24), .inl (cI, 800, .inl m_buffer))] → va_S A s.heap H locs → lv_has ls 1 [(0, .ref (ad 0))] → W p l e ({ frames := 2, cells := 0, slots := 0, locals := 42 }) s m ([.ref (ad 0)] : List Value).toArray below meth c H locs 0 0 (MQ below (gQ dC dI none A [(ad 0, .inr (10, oM ad m_undoCount m_thrown m_hasSnapshot a_m_fam m_rows m_lineLength m_formattedLength m_bufferLength m_limit m_next_9 m_beginsAt_9 m_token_9 m_error m_errorAt m_errorPosition m_nested m_codeCount)), ((ad 24), .inl (cI, 800, .inl m_buffer))]) ([.ref (ad 0)] : List Value).toArray s 0 0 A) (F0 m 144 ls []) := by
    intro m_next_144 m_beginsAt_144 H locs ls hf hP hD hS hl
    rw [p10_scan_J144] at hf
    refine lv_aload_n hx hb dX10_scan_144 rfl (lv_at hl 0 rfl) ?_
    refine lv_iconst (v := 2) hx hb dX10_scan_145 (by decide) ?_
    refine va_put (D := (dC, dI)) (ci := 10) (v := .int (2 : Int32)) (ty := .int) (C := RX10) (T := TX10) (N := 37) hx hb htg inX10 tyX10 tyX10_ok nmX10 hown hE.1 hP hD hS 0 rfl rfl 28 (by decide) (htg _ tw1410) (fun _ h9 => h9) rfl (by decide +kernel) rfl rfl (Nat.le_of_ble_eq_true rfl) dX10_scan_146 (fun H locs hP hD hS => ?_)
    have hP : va_P (dC, dI) vwCl [(ad 0, .inr (10, oM ad m_undoCount m_thrown m_hasSnapshot a_m_fam m_rows m_lineLength m_formattedLength m_bufferLength m_limit m_next_144 m_beginsAt_144 (2 : Int32) m_error m_errorAt m_errorPosition m_nested m_codeCount)), ((ad 24), .inl (cI, 800, .inl m_buffer))] H := hP
    have hD : va_D A [(ad 0, .inr (10, oM ad m_undoCount m_thrown m_hasSnapshot a_m_fam m_rows m_lineLength m_formattedLength m_bufferLength m_limit m_next_144 m_beginsAt_144 (2 : Int32) m_error m_errorAt m_errorPosition m_nested m_codeCount)), ((ad 24), .inl (cI, 800, .inl m_buffer))] := hD
    refine lv_goto (tgt := 167) hx hb dX10_scan_149 (by decide) ?_
    cases hf
    exact g_vret S hr hlocks hP hD hS dX10_scan_167
  have J101 : ∀ (m_next_101 : Int32) (m_beginsAt_101 : Int32) (H : Heap) (locs : List Loc) (ls : Array Slot), p10_scan_J101 m_next_101 m_beginsAt_101 = some (m_beginsAt_9, m_next_9, m_token_9) → va_P (dC, dI) vwCl [(ad 0, .inr (10, oM ad m_undoCount m_thrown m_hasSnapshot a_m_fam m_rows m_lineLength m_formattedLength m_bufferLength m_limit m_next_101 m_beginsAt_101 m_token m_error m_errorAt m_errorPosition m_nested m_codeCount)), ((ad 24), .inl (cI, 800, .inl m_buffer))] H → va_D A [(ad 0, .inr (10, oM ad m_undoCount m_thrown m_hasSnapshot a_m_fam m_rows m_lineLength m_formattedLength m_bufferLength m_limit m_next_101 m_beginsAt_101 m_token m_error m_errorAt m_errorPosition m_nested m_codeCount)), ((ad 24), .inl (cI, 800, .inl m_buffer))] → va_S A s.heap H locs → lv_has ls 1 [(0, .ref (ad 0))] → W p l e ({ frames := 2, cells := 0, slots := 0, locals := 42 }) s m ([.ref (ad 0)] : List Value).toArray below meth c H locs 0 0 (MQ below (gQ dC dI none A [(ad 0, .inr (10, oM ad m_undoCount m_thrown m_hasSnapshot a_m_fam m_rows m_lineLength m_formattedLength m_bufferLength m_limit m_next_9 m_beginsAt_9 m_token_9 m_error m_errorAt m_errorPosition m_nested m_codeCount)), ((ad 24), .inl (cI, 800, .inl m_buffer))]) ([.ref (ad 0)] : List Value).toArray s 0 0 A) (F0 m 101 ls []) := by
    intro m_next_101 m_beginsAt_101 H locs ls hf hP hD hS hl
    rw [p10_scan_J101] at hf
    refine lv_aload_n hx hb dX10_scan_101 rfl (lv_at hl 0 rfl) ?_
    refine lv_iconst (v := 1) hx hb dX10_scan_102 (by decide) ?_
    refine va_put (D := (dC, dI)) (ci := 10) (v := .int (1 : Int32)) (ty := .int) (C := RX10) (T := TX10) (N := 37) hx hb htg inX10 tyX10 tyX10_ok nmX10 hown hE.1 hP hD hS 0 rfl rfl 28 (by decide) (htg _ tw1410) (fun _ h9 => h9) rfl (by decide +kernel) rfl rfl (Nat.le_of_ble_eq_true rfl) dX10_scan_103 (fun H locs hP hD hS => ?_)
    have hP : va_P (dC, dI) vwCl [(ad 0, .inr (10, oM ad m_undoCount m_thrown m_hasSnapshot a_m_fam m_rows m_lineLength m_formattedLength m_bufferLength m_limit m_next_101 m_beginsAt_101 (1 : Int32) m_error m_errorAt m_errorPosition m_nested m_codeCount)), ((ad 24), .inl (cI, 800, .inl m_buffer))] H := hP
    have hD : va_D A [(ad 0, .inr (10, oM ad m_undoCount m_thrown m_hasSnapshot a_m_fam m_rows m_lineLength m_formattedLength m_bufferLength m_limit m_next_101 m_beginsAt_101 (1 : Int32) m_error m_errorAt m_errorPosition m_nested m_codeCount)), ((ad 24), .inl (cI, 800, .inl m_buffer))] := hD
    refine lv_goto (tgt := 167) hx hb dX10_scan_106 (by decide) ?_
    cases hf
    exact g_vret S hr hlocks hP hD hS dX10_scan_167
  have J39 : ∀ (m_next_39 : Int32) (H : Heap) (locs : List Loc) (ls : Array Slot), p10_scan_J39 m_buffer m_limit m_next_39 = some (m_beginsAt_9, m_next_9, m_token_9) → va_P (dC, dI) vwCl [(ad 0, .inr (10, oM ad m_undoCount m_thrown m_hasSnapshot a_m_fam m_rows m_lineLength m_formattedLength m_bufferLength m_limit m_next_39 m_beginsAt m_token m_error m_errorAt m_errorPosition m_nested m_codeCount)), ((ad 24), .inl (cI, 800, .inl m_buffer))] H → va_D A [(ad 0, .inr (10, oM ad m_undoCount m_thrown m_hasSnapshot a_m_fam m_rows m_lineLength m_formattedLength m_bufferLength m_limit m_next_39 m_beginsAt m_token m_error m_errorAt m_errorPosition m_nested m_codeCount)), ((ad 24), .inl (cI, 800, .inl m_buffer))] → va_S A s.heap H locs → lv_has ls 1 [(0, .ref (ad 0))] → W p l e ({ frames := 2, cells := 0, slots := 0, locals := 42 }) s m ([.ref (ad 0)] : List Value).toArray below meth c H locs 0 0 (MQ below (gQ dC dI none A [(ad 0, .inr (10, oM ad m_undoCount m_thrown m_hasSnapshot a_m_fam m_rows m_lineLength m_formattedLength m_bufferLength m_limit m_next_9 m_beginsAt_9 m_token_9 m_error m_errorAt m_errorPosition m_nested m_codeCount)), ((ad 24), .inl (cI, 800, .inl m_buffer))]) ([.ref (ad 0)] : List Value).toArray s 0 0 A) (F0 m 39 ls []) := by
    intro m_next_39 H locs ls hf hP hD hS hl
    rw [p10_scan_J39] at hf
    refine lv_aload_n hx hb dX10_scan_39 rfl (lv_at hl 0 rfl) ?_
    refine lv_aload_n hx hb dX10_scan_40 rfl (lv_at hl 0 rfl) ?_
    refine va_get (D := (dC, dI)) (ci := 10) (v := .int m_next_39) (C := RX10) (T := TX10) (N := 37) hx hb htg inX10 hown hE.1 hP 0 rfl rfl 26 (by decide) (htg _ tw1408) (fun _ h9 => h9) rfl dX10_scan_41 ?_
    refine va_put (D := (dC, dI)) (ci := 10) (v := .int m_next_39) (ty := .int) (C := RX10) (T := TX10) (N := 37) hx hb htg inX10 tyX10 tyX10_ok nmX10 hown hE.1 hP hD hS 0 rfl rfl 27 (by decide) (htg _ tw1409) (fun _ h9 => h9) rfl (by decide +kernel) rfl rfl (Nat.le_of_ble_eq_true rfl) dX10_scan_44 (fun H locs hP hD hS => ?_)
    have hP : va_P (dC, dI) vwCl [(ad 0, .inr (10, oM ad m_undoCount m_thrown m_hasSnapshot a_m_fam m_rows m_lineLength m_formattedLength m_bufferLength m_limit m_next_39 m_next_39 m_token m_error m_errorAt m_errorPosition m_nested m_codeCount)), ((ad 24), .inl (cI, 800, .inl m_buffer))] H := hP
    have hD : va_D A [(ad 0, .inr (10, oM ad m_undoCount m_thrown m_hasSnapshot a_m_fam m_rows m_lineLength m_formattedLength m_bufferLength m_limit m_next_39 m_next_39 m_token m_error m_errorAt m_errorPosition m_nested m_codeCount)), ((ad 24), .inl (cI, 800, .inl m_buffer))] := hD
    refine lv_aload_n hx hb dX10_scan_47 rfl (lv_at hl 0 rfl) ?_
    refine va_get (D := (dC, dI)) (ci := 10) (v := .int m_next_39) (C := RX10) (T := TX10) (N := 37) hx hb htg inX10 hown hE.1 hP 0 rfl rfl 26 (by decide) (htg _ tw1408) (fun _ h9 => h9) rfl dX10_scan_48 ?_
    refine lv_aload_n hx hb dX10_scan_51 rfl (lv_at hl 0 rfl) ?_
    refine va_get (D := (dC, dI)) (ci := 10) (v := .int m_limit) (C := RX10) (T := TX10) (N := 37) hx hb htg inX10 hown hE.1 hP 0 rfl rfl 25 (by decide) (htg _ tw1407) (fun _ h9 => h9) rfl dX10_scan_52 ?_
    refine lv_icmp_lt (tgt := 66) hx hb dX10_scan_55 (by decide) (fun h9 => ?_) (fun h9 => ?_)
    · have hf := itt h9 hf
      refine lv_aload_n hx hb dX10_scan_66 rfl (lv_at hl 0 rfl) ?_
      refine lv_aload_n hx hb dX10_scan_67 rfl (lv_at hl 0 rfl) ?_
      refine va_get (D := (dC, dI)) (ci := 10) (v := .int m_next_39) (C := RX10) (T := TX10) (N := 37) hx hb htg inX10 hown hE.1 hP 0 rfl rfl 26 (by decide) (htg _ tw1408) (fun _ h9 => h9) rfl dX10_scan_68 ?_
      obtain ⟨r71, h9, hf⟩ := ob_s hf
      refine gcV (index := 383) S hE (c_X10_isLetter ad a_m_fam m_undoCount m_thrown m_hasSnapshot m_rows m_lineLength m_formattedLength m_bufferLength m_limit m_next_39 m_next_39 m_token m_error m_errorAt m_errorPosition m_nested m_codeCount m_buffer m_next_39 r71 h9) mX10_isLetter tw1946 ⟨Nat.le_of_ble_eq_true rfl, Nat.le_of_ble_eq_true rfl⟩ hP hD hS hA ⟨Nat.zero_le _, Nat.zero_le _⟩ 0 10 rfl rfl rfl (wr := []) [0, 1] [] rfl rfl rfl rfl (by decide) (As := [.int m_next_39]) (rest := []) rfl hl.1 rfl (Nat.le_of_ble_eq_true rfl) dX10_scan_71 (fun H locs hP hD hS => ?_)
      refine W.eq (g2 := F0 m 74 ls [.int (bI r71)]) rfl ?_
      have hP : va_P (dC, dI) vwCl [(ad 0, .inr (10, oM ad m_undoCount m_thrown m_hasSnapshot a_m_fam m_rows m_lineLength m_formattedLength m_bufferLength m_limit m_next_39 m_next_39 m_token m_error m_errorAt m_errorPosition m_nested m_codeCount)), ((ad 24), .inl (cI, 800, .inl m_buffer))] H := hP
      have hD : va_D A [(ad 0, .inr (10, oM ad m_undoCount m_thrown m_hasSnapshot a_m_fam m_rows m_lineLength m_formattedLength m_bufferLength m_limit m_next_39 m_next_39 m_token m_error m_errorAt m_errorPosition m_nested m_codeCount)), ((ad 24), .inl (cI, 800, .inl m_buffer))] := hD
      refine lv_if_eq (tgt := 109) hx hb dX10_scan_74 (by decide) (fun h9 => ?_) (fun h9 => ?_)
      · have hf := ctf (bI_0 h9) hf
        refine lv_aload_n hx hb dX10_scan_109 rfl (lv_at hl 0 rfl) ?_
        refine lv_aload_n hx hb dX10_scan_110 rfl (lv_at hl 0 rfl) ?_
        refine va_get (D := (dC, dI)) (ci := 10) (v := .int m_next_39) (C := RX10) (T := TX10) (N := 37) hx hb htg inX10 hown hE.1 hP 0 rfl rfl 26 (by decide) (htg _ tw1408) (fun _ h9 => h9) rfl dX10_scan_111 ?_
        obtain ⟨r114, h9, hf⟩ := ob_s hf
        refine gcV (index := 386) S hE (c_X10_isDigit ad a_m_fam m_undoCount m_thrown m_hasSnapshot m_rows m_lineLength m_formattedLength m_bufferLength m_limit m_next_39 m_next_39 m_token m_error m_errorAt m_errorPosition m_nested m_codeCount m_buffer m_next_39 r114 h9) mX10_isDigit tw1950 ⟨Nat.le_of_ble_eq_true rfl, Nat.le_of_ble_eq_true rfl⟩ hP hD hS hA ⟨Nat.zero_le _, Nat.zero_le _⟩ 0 10 rfl rfl rfl (wr := []) [0, 1] [] rfl rfl rfl rfl (by decide) (As := [.int m_next_39]) (rest := []) rfl hl.1 rfl (Nat.le_of_ble_eq_true rfl) dX10_scan_114 (fun H locs hP hD hS => ?_)
        refine W.eq (g2 := F0 m 117 ls [.int (bI r114)]) rfl ?_
        have hP : va_P (dC, dI) vwCl [(ad 0, .inr (10, oM ad m_undoCount m_thrown m_hasSnapshot a_m_fam m_rows m_lineLength m_formattedLength m_bufferLength m_limit m_next_39 m_next_39 m_token m_error m_errorAt m_errorPosition m_nested m_codeCount)), ((ad 24), .inl (cI, 800, .inl m_buffer))] H := hP
        have hD : va_D A [(ad 0, .inr (10, oM ad m_undoCount m_thrown m_hasSnapshot a_m_fam m_rows m_lineLength m_formattedLength m_bufferLength m_limit m_next_39 m_next_39 m_token m_error m_errorAt m_errorPosition m_nested m_codeCount)), ((ad 24), .inl (cI, 800, .inl m_buffer))] := hD
        refine lv_if_eq (tgt := 152) hx hb dX10_scan_117 (by decide) (fun h9 => ?_) (fun h9 => ?_)
        · have hf := ctf (bI_0 h9) hf
          refine lv_aload_n hx hb dX10_scan_152 rfl (lv_at hl 0 rfl) ?_
          refine lv_dup hx hb dX10_scan_153 rfl ?_
          refine va_get (D := (dC, dI)) (ci := 10) (v := .int m_next_39) (C := RX10) (T := TX10) (N := 37) hx hb htg inX10 hown hE.1 hP 0 rfl rfl 26 (by decide) (htg _ tw1408) (fun _ h9 => h9) rfl dX10_scan_154 ?_
          refine lv_iconst (v := 1) hx hb dX10_scan_157 (by decide) ?_
          refine lv_iadd hx hb dX10_scan_158 ?_
          refine lv_topi (fun t159 h9 => ?_)
          have hf := lb_e h9 hf
          refine va_put (D := (dC, dI)) (ci := 10) (v := .int t159) (ty := .int) (C := RX10) (T := TX10) (N := 37) hx hb htg inX10 tyX10 tyX10_ok nmX10 hown hE.1 hP hD hS 0 rfl rfl 26 (by decide) (htg _ tw1408) (fun _ h9 => h9) rfl (by decide +kernel) rfl rfl (Nat.le_of_ble_eq_true rfl) dX10_scan_159 (fun H locs hP hD hS => ?_)
          have hP : va_P (dC, dI) vwCl [(ad 0, .inr (10, oM ad m_undoCount m_thrown m_hasSnapshot a_m_fam m_rows m_lineLength m_formattedLength m_bufferLength m_limit t159 m_next_39 m_token m_error m_errorAt m_errorPosition m_nested m_codeCount)), ((ad 24), .inl (cI, 800, .inl m_buffer))] H := hP
          have hD : va_D A [(ad 0, .inr (10, oM ad m_undoCount m_thrown m_hasSnapshot a_m_fam m_rows m_lineLength m_formattedLength m_bufferLength m_limit t159 m_next_39 m_token m_error m_errorAt m_errorPosition m_nested m_codeCount)), ((ad 24), .inl (cI, 800, .inl m_buffer))] := hD
          refine lv_aload_n hx hb dX10_scan_162 rfl (lv_at hl 0 rfl) ?_
          refine lv_iconst (v := 3) hx hb dX10_scan_163 (by decide) ?_
          refine va_put (D := (dC, dI)) (ci := 10) (v := .int (3 : Int32)) (ty := .int) (C := RX10) (T := TX10) (N := 37) hx hb htg inX10 tyX10 tyX10_ok nmX10 hown hE.1 hP hD hS 0 rfl rfl 28 (by decide) (htg _ tw1410) (fun _ h9 => h9) rfl (by decide +kernel) rfl rfl (Nat.le_of_ble_eq_true rfl) dX10_scan_164 (fun H locs hP hD hS => ?_)
          have hP : va_P (dC, dI) vwCl [(ad 0, .inr (10, oM ad m_undoCount m_thrown m_hasSnapshot a_m_fam m_rows m_lineLength m_formattedLength m_bufferLength m_limit t159 m_next_39 (3 : Int32) m_error m_errorAt m_errorPosition m_nested m_codeCount)), ((ad 24), .inl (cI, 800, .inl m_buffer))] H := hP
          have hD : va_D A [(ad 0, .inr (10, oM ad m_undoCount m_thrown m_hasSnapshot a_m_fam m_rows m_lineLength m_formattedLength m_bufferLength m_limit t159 m_next_39 (3 : Int32) m_error m_errorAt m_errorPosition m_nested m_codeCount)), ((ad 24), .inl (cI, 800, .inl m_buffer))] := hD
          cases hf
          exact g_vret S hr hlocks hP hD hS dX10_scan_167
        · have hf := ctt (bI_1 h9) hf
          have K120 : ∀ (n120 : Nat) (m_next_120 : Int32) (ex120 : Int32) (H : Heap) (locs : List Loc) (ls : Array Slot), p10_scan_L120 m_buffer m_limit n120 m_next_120 = some ex120 → (fun m_next_x120 => p10_scan_J144 m_next_x120 m_next_39) ex120 = some (m_beginsAt_9, m_next_9, m_token_9) → va_P (dC, dI) vwCl [(ad 0, .inr (10, oM ad m_undoCount m_thrown m_hasSnapshot a_m_fam m_rows m_lineLength m_formattedLength m_bufferLength m_limit m_next_120 m_next_39 m_token m_error m_errorAt m_errorPosition m_nested m_codeCount)), ((ad 24), .inl (cI, 800, .inl m_buffer))] H → va_D A [(ad 0, .inr (10, oM ad m_undoCount m_thrown m_hasSnapshot a_m_fam m_rows m_lineLength m_formattedLength m_bufferLength m_limit m_next_120 m_next_39 m_token m_error m_errorAt m_errorPosition m_nested m_codeCount)), ((ad 24), .inl (cI, 800, .inl m_buffer))] → va_S A s.heap H locs → lv_has ls 1 [(0, .ref (ad 0))] → W p l e ({ frames := 2, cells := 0, slots := 0, locals := 42 }) s m ([.ref (ad 0)] : List Value).toArray below meth c H locs 0 0 (MQ below (gQ dC dI none A [(ad 0, .inr (10, oM ad m_undoCount m_thrown m_hasSnapshot a_m_fam m_rows m_lineLength m_formattedLength m_bufferLength m_limit m_next_9 m_beginsAt_9 m_token_9 m_error m_errorAt m_errorPosition m_nested m_codeCount)), ((ad 24), .inl (cI, 800, .inl m_buffer))]) ([.ref (ad 0)] : List Value).toArray s 0 0 A) (F0 m 120 ls []) := by
            intro n120
            induction n120 with
            | zero => intro m_next_120 ex120 H locs ls hf; rw [p10_scan_L120] at hf; cases hf
            | succ n120 ih120 =>
              intro m_next_120 ex120 H locs ls hf hk120 hP hD hS hl
              rw [p10_scan_L120, p10_scan_L120_B] at hf
              refine lv_aload_n hx hb dX10_scan_120 rfl (lv_at hl 0 rfl) ?_
              refine lv_aload_n hx hb dX10_scan_121 rfl (lv_at hl 0 rfl) ?_
              refine va_get (D := (dC, dI)) (ci := 10) (v := .int m_next_120) (C := RX10) (T := TX10) (N := 37) hx hb htg inX10 hown hE.1 hP 0 rfl rfl 26 (by decide) (htg _ tw1408) (fun _ h9 => h9) rfl dX10_scan_122 ?_
              obtain ⟨r125, h9, hf⟩ := ob_s hf
              refine gcV (index := 386) S hE (c_X10_isDigit ad a_m_fam m_undoCount m_thrown m_hasSnapshot m_rows m_lineLength m_formattedLength m_bufferLength m_limit m_next_120 m_next_39 m_token m_error m_errorAt m_errorPosition m_nested m_codeCount m_buffer m_next_120 r125 h9) mX10_isDigit tw1950 ⟨Nat.le_of_ble_eq_true rfl, Nat.le_of_ble_eq_true rfl⟩ hP hD hS hA ⟨Nat.zero_le _, Nat.zero_le _⟩ 0 10 rfl rfl rfl (wr := []) [0, 1] [] rfl rfl rfl rfl (by decide) (As := [.int m_next_120]) (rest := []) rfl hl.1 rfl (Nat.le_of_ble_eq_true rfl) dX10_scan_125 (fun H locs hP hD hS => ?_)
              refine W.eq (g2 := F0 m 128 ls [.int (bI r125)]) rfl ?_
              have hP : va_P (dC, dI) vwCl [(ad 0, .inr (10, oM ad m_undoCount m_thrown m_hasSnapshot a_m_fam m_rows m_lineLength m_formattedLength m_bufferLength m_limit m_next_120 m_next_39 m_token m_error m_errorAt m_errorPosition m_nested m_codeCount)), ((ad 24), .inl (cI, 800, .inl m_buffer))] H := hP
              have hD : va_D A [(ad 0, .inr (10, oM ad m_undoCount m_thrown m_hasSnapshot a_m_fam m_rows m_lineLength m_formattedLength m_bufferLength m_limit m_next_120 m_next_39 m_token m_error m_errorAt m_errorPosition m_nested m_codeCount)), ((ad 24), .inl (cI, 800, .inl m_buffer))] := hD
              refine lv_if_eq (tgt := 144) hx hb dX10_scan_128 (by decide) (fun h9 => ?_) (fun h9 => ?_)
              · have hf := ctf (bI_0 h9) hf
                cases hf
                have hf := hk120
                exact J144 m_next_120 m_next_39 H locs ls hf hP hD hS (lv_sub hl [0] rfl)
              · have hf := ctt (bI_1 h9) hf
                refine lv_aload_n hx hb dX10_scan_131 rfl (lv_at hl 0 rfl) ?_
                refine lv_dup hx hb dX10_scan_132 rfl ?_
                refine va_get (D := (dC, dI)) (ci := 10) (v := .int m_next_120) (C := RX10) (T := TX10) (N := 37) hx hb htg inX10 hown hE.1 hP 0 rfl rfl 26 (by decide) (htg _ tw1408) (fun _ h9 => h9) rfl dX10_scan_133 ?_
                refine lv_iconst (v := 1) hx hb dX10_scan_136 (by decide) ?_
                refine lv_iadd hx hb dX10_scan_137 ?_
                refine lv_topi (fun t138 h9 => ?_)
                have hf := lb_e h9 hf
                refine va_put (D := (dC, dI)) (ci := 10) (v := .int t138) (ty := .int) (C := RX10) (T := TX10) (N := 37) hx hb htg inX10 tyX10 tyX10_ok nmX10 hown hE.1 hP hD hS 0 rfl rfl 26 (by decide) (htg _ tw1408) (fun _ h9 => h9) rfl (by decide +kernel) rfl rfl (Nat.le_of_ble_eq_true rfl) dX10_scan_138 (fun H locs hP hD hS => ?_)
                have hP : va_P (dC, dI) vwCl [(ad 0, .inr (10, oM ad m_undoCount m_thrown m_hasSnapshot a_m_fam m_rows m_lineLength m_formattedLength m_bufferLength m_limit t138 m_next_39 m_token m_error m_errorAt m_errorPosition m_nested m_codeCount)), ((ad 24), .inl (cI, 800, .inl m_buffer))] H := hP
                have hD : va_D A [(ad 0, .inr (10, oM ad m_undoCount m_thrown m_hasSnapshot a_m_fam m_rows m_lineLength m_formattedLength m_bufferLength m_limit t138 m_next_39 m_token m_error m_errorAt m_errorPosition m_nested m_codeCount)), ((ad 24), .inl (cI, 800, .inl m_buffer))] := hD
                refine lv_goto (tgt := 120) hx hb dX10_scan_141 (by decide) ?_
                exact ih120 t138 ex120 H locs ls hf hk120 hP hD hS (lv_sub hl [0] rfl)
          obtain ⟨ex, h9, hf⟩ := ob_s hf
          exact K120 FU m_next_39 ex H locs ls h9 hf hP hD hS (lv_sub hl [0] rfl)
      · have hf := ctt (bI_1 h9) hf
        have K77 : ∀ (n77 : Nat) (m_next_77 : Int32) (ex77 : Int32) (H : Heap) (locs : List Loc) (ls : Array Slot), p10_scan_L77 m_buffer m_limit n77 m_next_77 = some ex77 → (fun m_next_x77 => p10_scan_J101 m_next_x77 m_next_39) ex77 = some (m_beginsAt_9, m_next_9, m_token_9) → va_P (dC, dI) vwCl [(ad 0, .inr (10, oM ad m_undoCount m_thrown m_hasSnapshot a_m_fam m_rows m_lineLength m_formattedLength m_bufferLength m_limit m_next_77 m_next_39 m_token m_error m_errorAt m_errorPosition m_nested m_codeCount)), ((ad 24), .inl (cI, 800, .inl m_buffer))] H → va_D A [(ad 0, .inr (10, oM ad m_undoCount m_thrown m_hasSnapshot a_m_fam m_rows m_lineLength m_formattedLength m_bufferLength m_limit m_next_77 m_next_39 m_token m_error m_errorAt m_errorPosition m_nested m_codeCount)), ((ad 24), .inl (cI, 800, .inl m_buffer))] → va_S A s.heap H locs → lv_has ls 1 [(0, .ref (ad 0))] → W p l e ({ frames := 2, cells := 0, slots := 0, locals := 42 }) s m ([.ref (ad 0)] : List Value).toArray below meth c H locs 0 0 (MQ below (gQ dC dI none A [(ad 0, .inr (10, oM ad m_undoCount m_thrown m_hasSnapshot a_m_fam m_rows m_lineLength m_formattedLength m_bufferLength m_limit m_next_9 m_beginsAt_9 m_token_9 m_error m_errorAt m_errorPosition m_nested m_codeCount)), ((ad 24), .inl (cI, 800, .inl m_buffer))]) ([.ref (ad 0)] : List Value).toArray s 0 0 A) (F0 m 77 ls []) := by
          intro n77
          induction n77 with
          | zero => intro m_next_77 ex77 H locs ls hf; rw [p10_scan_L77] at hf; cases hf
          | succ n77 ih77 =>
            intro m_next_77 ex77 H locs ls hf hk77 hP hD hS hl
            rw [p10_scan_L77, p10_scan_L77_B] at hf
            refine lv_aload_n hx hb dX10_scan_77 rfl (lv_at hl 0 rfl) ?_
            refine lv_aload_n hx hb dX10_scan_78 rfl (lv_at hl 0 rfl) ?_
            refine va_get (D := (dC, dI)) (ci := 10) (v := .int m_next_77) (C := RX10) (T := TX10) (N := 37) hx hb htg inX10 hown hE.1 hP 0 rfl rfl 26 (by decide) (htg _ tw1408) (fun _ h9 => h9) rfl dX10_scan_79 ?_
            obtain ⟨r82, h9, hf⟩ := ob_s hf
            refine gcV (index := 383) S hE (c_X10_isLetter ad a_m_fam m_undoCount m_thrown m_hasSnapshot m_rows m_lineLength m_formattedLength m_bufferLength m_limit m_next_77 m_next_39 m_token m_error m_errorAt m_errorPosition m_nested m_codeCount m_buffer m_next_77 r82 h9) mX10_isLetter tw1946 ⟨Nat.le_of_ble_eq_true rfl, Nat.le_of_ble_eq_true rfl⟩ hP hD hS hA ⟨Nat.zero_le _, Nat.zero_le _⟩ 0 10 rfl rfl rfl (wr := []) [0, 1] [] rfl rfl rfl rfl (by decide) (As := [.int m_next_77]) (rest := []) rfl hl.1 rfl (Nat.le_of_ble_eq_true rfl) dX10_scan_82 (fun H locs hP hD hS => ?_)
            refine W.eq (g2 := F0 m 85 ls [.int (bI r82)]) rfl ?_
            have hP : va_P (dC, dI) vwCl [(ad 0, .inr (10, oM ad m_undoCount m_thrown m_hasSnapshot a_m_fam m_rows m_lineLength m_formattedLength m_bufferLength m_limit m_next_77 m_next_39 m_token m_error m_errorAt m_errorPosition m_nested m_codeCount)), ((ad 24), .inl (cI, 800, .inl m_buffer))] H := hP
            have hD : va_D A [(ad 0, .inr (10, oM ad m_undoCount m_thrown m_hasSnapshot a_m_fam m_rows m_lineLength m_formattedLength m_bufferLength m_limit m_next_77 m_next_39 m_token m_error m_errorAt m_errorPosition m_nested m_codeCount)), ((ad 24), .inl (cI, 800, .inl m_buffer))] := hD
            refine lv_if_eq (tgt := 101) hx hb dX10_scan_85 (by decide) (fun h9 => ?_) (fun h9 => ?_)
            · have hf := ctf (bI_0 h9) hf
              cases hf
              have hf := hk77
              exact J101 m_next_77 m_next_39 H locs ls hf hP hD hS (lv_sub hl [0] rfl)
            · have hf := ctt (bI_1 h9) hf
              refine lv_aload_n hx hb dX10_scan_88 rfl (lv_at hl 0 rfl) ?_
              refine lv_dup hx hb dX10_scan_89 rfl ?_
              refine va_get (D := (dC, dI)) (ci := 10) (v := .int m_next_77) (C := RX10) (T := TX10) (N := 37) hx hb htg inX10 hown hE.1 hP 0 rfl rfl 26 (by decide) (htg _ tw1408) (fun _ h9 => h9) rfl dX10_scan_90 ?_
              refine lv_iconst (v := 1) hx hb dX10_scan_93 (by decide) ?_
              refine lv_iadd hx hb dX10_scan_94 ?_
              refine lv_topi (fun t95 h9 => ?_)
              have hf := lb_e h9 hf
              refine va_put (D := (dC, dI)) (ci := 10) (v := .int t95) (ty := .int) (C := RX10) (T := TX10) (N := 37) hx hb htg inX10 tyX10 tyX10_ok nmX10 hown hE.1 hP hD hS 0 rfl rfl 26 (by decide) (htg _ tw1408) (fun _ h9 => h9) rfl (by decide +kernel) rfl rfl (Nat.le_of_ble_eq_true rfl) dX10_scan_95 (fun H locs hP hD hS => ?_)
              have hP : va_P (dC, dI) vwCl [(ad 0, .inr (10, oM ad m_undoCount m_thrown m_hasSnapshot a_m_fam m_rows m_lineLength m_formattedLength m_bufferLength m_limit t95 m_next_39 m_token m_error m_errorAt m_errorPosition m_nested m_codeCount)), ((ad 24), .inl (cI, 800, .inl m_buffer))] H := hP
              have hD : va_D A [(ad 0, .inr (10, oM ad m_undoCount m_thrown m_hasSnapshot a_m_fam m_rows m_lineLength m_formattedLength m_bufferLength m_limit t95 m_next_39 m_token m_error m_errorAt m_errorPosition m_nested m_codeCount)), ((ad 24), .inl (cI, 800, .inl m_buffer))] := hD
              refine lv_goto (tgt := 77) hx hb dX10_scan_98 (by decide) ?_
              exact ih77 t95 ex77 H locs ls hf hk77 hP hD hS (lv_sub hl [0] rfl)
        obtain ⟨ex, h9, hf⟩ := ob_s hf
        exact K77 FU m_next_39 ex H locs ls h9 hf hP hD hS (lv_sub hl [0] rfl)
    · have hf := itf h9 hf
      refine lv_aload_n hx hb dX10_scan_58 rfl (lv_at hl 0 rfl) ?_
      refine lv_iconst (v := 0) hx hb dX10_scan_59 (by decide) ?_
      refine va_put (D := (dC, dI)) (ci := 10) (v := .int (0 : Int32)) (ty := .int) (C := RX10) (T := TX10) (N := 37) hx hb htg inX10 tyX10 tyX10_ok nmX10 hown hE.1 hP hD hS 0 rfl rfl 28 (by decide) (htg _ tw1410) (fun _ h9 => h9) rfl (by decide +kernel) rfl rfl (Nat.le_of_ble_eq_true rfl) dX10_scan_60 (fun H locs hP hD hS => ?_)
      have hP : va_P (dC, dI) vwCl [(ad 0, .inr (10, oM ad m_undoCount m_thrown m_hasSnapshot a_m_fam m_rows m_lineLength m_formattedLength m_bufferLength m_limit m_next_39 m_next_39 (0 : Int32) m_error m_errorAt m_errorPosition m_nested m_codeCount)), ((ad 24), .inl (cI, 800, .inl m_buffer))] H := hP
      have hD : va_D A [(ad 0, .inr (10, oM ad m_undoCount m_thrown m_hasSnapshot a_m_fam m_rows m_lineLength m_formattedLength m_bufferLength m_limit m_next_39 m_next_39 (0 : Int32) m_error m_errorAt m_errorPosition m_nested m_codeCount)), ((ad 24), .inl (cI, 800, .inl m_buffer))] := hD
      refine lv_goto (tgt := 167) hx hb dX10_scan_63 (by decide) ?_
      cases hf
      exact g_vret S hr hlocks hP hD hS dX10_scan_167
  have K0 : ∀ (n0 : Nat) (m_next_0 : Int32) (ex0 : Int32) (H : Heap) (locs : List Loc) (ls : Array Slot), p10_scan_L0 m_buffer m_limit n0 m_next_0 = some ex0 → (fun m_next_x0 => p10_scan_J39 m_buffer m_limit m_next_x0) ex0 = some (m_beginsAt_9, m_next_9, m_token_9) → va_P (dC, dI) vwCl [(ad 0, .inr (10, oM ad m_undoCount m_thrown m_hasSnapshot a_m_fam m_rows m_lineLength m_formattedLength m_bufferLength m_limit m_next_0 m_beginsAt m_token m_error m_errorAt m_errorPosition m_nested m_codeCount)), ((ad 24), .inl (cI, 800, .inl m_buffer))] H → va_D A [(ad 0, .inr (10, oM ad m_undoCount m_thrown m_hasSnapshot a_m_fam m_rows m_lineLength m_formattedLength m_bufferLength m_limit m_next_0 m_beginsAt m_token m_error m_errorAt m_errorPosition m_nested m_codeCount)), ((ad 24), .inl (cI, 800, .inl m_buffer))] → va_S A s.heap H locs → lv_has ls 1 [(0, .ref (ad 0))] → W p l e ({ frames := 2, cells := 0, slots := 0, locals := 42 }) s m ([.ref (ad 0)] : List Value).toArray below meth c H locs 0 0 (MQ below (gQ dC dI none A [(ad 0, .inr (10, oM ad m_undoCount m_thrown m_hasSnapshot a_m_fam m_rows m_lineLength m_formattedLength m_bufferLength m_limit m_next_9 m_beginsAt_9 m_token_9 m_error m_errorAt m_errorPosition m_nested m_codeCount)), ((ad 24), .inl (cI, 800, .inl m_buffer))]) ([.ref (ad 0)] : List Value).toArray s 0 0 A) (F0 m 0 ls []) := by
    intro n0
    induction n0 with
    | zero => intro m_next_0 ex0 H locs ls hf; rw [p10_scan_L0] at hf; cases hf
    | succ n0 ih0 =>
      intro m_next_0 ex0 H locs ls hf hk0 hP hD hS hl
      rw [p10_scan_L0, p10_scan_L0_B] at hf
      have J26 : ∀  (H : Heap) (locs : List Loc) (ls : Array Slot), p10_scan_J26 (p10_scan_L0 m_buffer m_limit n0) m_next_0 = some ex0 → va_P (dC, dI) vwCl [(ad 0, .inr (10, oM ad m_undoCount m_thrown m_hasSnapshot a_m_fam m_rows m_lineLength m_formattedLength m_bufferLength m_limit m_next_0 m_beginsAt m_token m_error m_errorAt m_errorPosition m_nested m_codeCount)), ((ad 24), .inl (cI, 800, .inl m_buffer))] H → va_D A [(ad 0, .inr (10, oM ad m_undoCount m_thrown m_hasSnapshot a_m_fam m_rows m_lineLength m_formattedLength m_bufferLength m_limit m_next_0 m_beginsAt m_token m_error m_errorAt m_errorPosition m_nested m_codeCount)), ((ad 24), .inl (cI, 800, .inl m_buffer))] → va_S A s.heap H locs → lv_has ls 1 [(0, .ref (ad 0))] → W p l e ({ frames := 2, cells := 0, slots := 0, locals := 42 }) s m ([.ref (ad 0)] : List Value).toArray below meth c H locs 0 0 (MQ below (gQ dC dI none A [(ad 0, .inr (10, oM ad m_undoCount m_thrown m_hasSnapshot a_m_fam m_rows m_lineLength m_formattedLength m_bufferLength m_limit m_next_9 m_beginsAt_9 m_token_9 m_error m_errorAt m_errorPosition m_nested m_codeCount)), ((ad 24), .inl (cI, 800, .inl m_buffer))]) ([.ref (ad 0)] : List Value).toArray s 0 0 A) (F0 m 26 ls []) := by
        intro  H locs ls hf hP hD hS hl
        rw [p10_scan_J26] at hf
        refine lv_aload_n hx hb dX10_scan_26 rfl (lv_at hl 0 rfl) ?_
        refine lv_dup hx hb dX10_scan_27 rfl ?_
        refine va_get (D := (dC, dI)) (ci := 10) (v := .int m_next_0) (C := RX10) (T := TX10) (N := 37) hx hb htg inX10 hown hE.1 hP 0 rfl rfl 26 (by decide) (htg _ tw1408) (fun _ h9 => h9) rfl dX10_scan_28 ?_
        refine lv_iconst (v := 1) hx hb dX10_scan_31 (by decide) ?_
        refine lv_iadd hx hb dX10_scan_32 ?_
        refine lv_topi (fun t33 h9 => ?_)
        have hf := lb_e h9 hf
        refine va_put (D := (dC, dI)) (ci := 10) (v := .int t33) (ty := .int) (C := RX10) (T := TX10) (N := 37) hx hb htg inX10 tyX10 tyX10_ok nmX10 hown hE.1 hP hD hS 0 rfl rfl 26 (by decide) (htg _ tw1408) (fun _ h9 => h9) rfl (by decide +kernel) rfl rfl (Nat.le_of_ble_eq_true rfl) dX10_scan_33 (fun H locs hP hD hS => ?_)
        have hP : va_P (dC, dI) vwCl [(ad 0, .inr (10, oM ad m_undoCount m_thrown m_hasSnapshot a_m_fam m_rows m_lineLength m_formattedLength m_bufferLength m_limit t33 m_beginsAt m_token m_error m_errorAt m_errorPosition m_nested m_codeCount)), ((ad 24), .inl (cI, 800, .inl m_buffer))] H := hP
        have hD : va_D A [(ad 0, .inr (10, oM ad m_undoCount m_thrown m_hasSnapshot a_m_fam m_rows m_lineLength m_formattedLength m_bufferLength m_limit t33 m_beginsAt m_token m_error m_errorAt m_errorPosition m_nested m_codeCount)), ((ad 24), .inl (cI, 800, .inl m_buffer))] := hD
        refine lv_goto (tgt := 0) hx hb dX10_scan_36 (by decide) ?_
        exact ih0 t33 ex0 H locs ls hf hk0 hP hD hS (lv_sub hl [0] rfl)
      refine lv_aload_n hx hb dX10_scan_0 rfl (lv_at hl 0 rfl) ?_
      refine lv_aload_n hx hb dX10_scan_1 rfl (lv_at hl 0 rfl) ?_
      refine va_get (D := (dC, dI)) (ci := 10) (v := .int m_next_0) (C := RX10) (T := TX10) (N := 37) hx hb htg inX10 hown hE.1 hP 0 rfl rfl 26 (by decide) (htg _ tw1408) (fun _ h9 => h9) rfl dX10_scan_2 ?_
      obtain ⟨r5, h9, hf⟩ := ob_s hf
      refine gcV (index := 371) S hE (c_X10_byteAt ad a_m_fam m_undoCount m_thrown m_hasSnapshot m_rows m_lineLength m_formattedLength m_bufferLength m_limit m_next_0 m_beginsAt m_token m_error m_errorAt m_errorPosition m_nested m_codeCount m_buffer m_next_0 r5 h9) mX10_byteAt tw1942 ⟨Nat.le_of_ble_eq_true rfl, Nat.le_of_ble_eq_true rfl⟩ hP hD hS hA ⟨Nat.zero_le _, Nat.zero_le _⟩ 0 10 rfl rfl rfl (wr := []) [0, 1] [] rfl rfl rfl rfl (by decide) (As := [.int m_next_0]) (rest := []) rfl hl.1 rfl (Nat.le_of_ble_eq_true rfl) dX10_scan_5 (fun H locs hP hD hS => ?_)
      refine W.eq (g2 := F0 m 8 ls [.int r5]) rfl ?_
      have hP : va_P (dC, dI) vwCl [(ad 0, .inr (10, oM ad m_undoCount m_thrown m_hasSnapshot a_m_fam m_rows m_lineLength m_formattedLength m_bufferLength m_limit m_next_0 m_beginsAt m_token m_error m_errorAt m_errorPosition m_nested m_codeCount)), ((ad 24), .inl (cI, 800, .inl m_buffer))] H := hP
      have hD : va_D A [(ad 0, .inr (10, oM ad m_undoCount m_thrown m_hasSnapshot a_m_fam m_rows m_lineLength m_formattedLength m_bufferLength m_limit m_next_0 m_beginsAt m_token m_error m_errorAt m_errorPosition m_nested m_codeCount)), ((ad 24), .inl (cI, 800, .inl m_buffer))] := hD
      refine lv_bipush (v := 32) hx hb dX10_scan_8 (by decide) ?_
      refine lv_icmp_eq (tgt := 26) hx hb dX10_scan_10 (by decide) (fun h9 => ?_) (fun h9 => ?_)
      · have hf := itt h9 hf
        exact J26 H locs ls hf hP hD hS (lv_sub hl [0] rfl)
      · have hf := itf h9 hf
        refine lv_aload_n hx hb dX10_scan_13 rfl (lv_at hl 0 rfl) ?_
        refine lv_aload_n hx hb dX10_scan_14 rfl (lv_at hl 0 rfl) ?_
        refine va_get (D := (dC, dI)) (ci := 10) (v := .int m_next_0) (C := RX10) (T := TX10) (N := 37) hx hb htg inX10 hown hE.1 hP 0 rfl rfl 26 (by decide) (htg _ tw1408) (fun _ h9 => h9) rfl dX10_scan_15 ?_
        obtain ⟨r18, h9, hf⟩ := ob_s hf
        refine gcV (index := 371) S hE (c_X10_byteAt ad a_m_fam m_undoCount m_thrown m_hasSnapshot m_rows m_lineLength m_formattedLength m_bufferLength m_limit m_next_0 m_beginsAt m_token m_error m_errorAt m_errorPosition m_nested m_codeCount m_buffer m_next_0 r18 h9) mX10_byteAt tw1942 ⟨Nat.le_of_ble_eq_true rfl, Nat.le_of_ble_eq_true rfl⟩ hP hD hS hA ⟨Nat.zero_le _, Nat.zero_le _⟩ 0 10 rfl rfl rfl (wr := []) [0, 1] [] rfl rfl rfl rfl (by decide) (As := [.int m_next_0]) (rest := []) rfl hl.1 rfl (Nat.le_of_ble_eq_true rfl) dX10_scan_18 (fun H locs hP hD hS => ?_)
        refine W.eq (g2 := F0 m 21 ls [.int r18]) rfl ?_
        have hP : va_P (dC, dI) vwCl [(ad 0, .inr (10, oM ad m_undoCount m_thrown m_hasSnapshot a_m_fam m_rows m_lineLength m_formattedLength m_bufferLength m_limit m_next_0 m_beginsAt m_token m_error m_errorAt m_errorPosition m_nested m_codeCount)), ((ad 24), .inl (cI, 800, .inl m_buffer))] H := hP
        have hD : va_D A [(ad 0, .inr (10, oM ad m_undoCount m_thrown m_hasSnapshot a_m_fam m_rows m_lineLength m_formattedLength m_bufferLength m_limit m_next_0 m_beginsAt m_token m_error m_errorAt m_errorPosition m_nested m_codeCount)), ((ad 24), .inl (cI, 800, .inl m_buffer))] := hD
        refine lv_bipush (v := 10) hx hb dX10_scan_21 (by decide) ?_
        refine lv_icmp_ne (tgt := 39) hx hb dX10_scan_23 (by decide) (fun h9 => ?_) (fun h9 => ?_)
        · have hf := itf h9 hf
          cases hf
          have hf := hk0
          exact J39 m_next_0 H locs ls hf hP hD hS (lv_sub hl [0] rfl)
        · have hf := itt h9 hf
          exact J26 H locs ls hf hP hD hS (lv_sub hl [0] rfl)
  obtain ⟨ex, h9, hf⟩ := ob_s hf
  exact K0 FU m_next ex H locs ls h9 hf hP hD hS (lv_sub hl [0] rfl)
def p10_startText (m_buffer : Nat → Int32) (v1 : Int32) : Option (Int32 × Int32 × Int32 × Int32 × Int32 × Int32) := ob (p10_scan v1 (0 : Int32) m_buffer) (uc3 fun m_beginsAt_21 m_next_21 m_token_21 => some (m_beginsAt_21, (0 : Int32), v1, (0 : Int32), m_next_21, m_token_21))
set_option maxHeartbeats 4000000 in
set_option maxRecDepth 100000 in
theorem c_X10_startText (ad : Nat → Nat) (a_m_fam : Nat) (m_undoCount : Int32) (m_thrown : Int32) (m_hasSnapshot : Bool) (m_rows : Int32) (m_lineLength : Int32) (m_formattedLength : Int32) (m_bufferLength : Int32) (m_limit : Int32) (m_next : Int32) (m_beginsAt : Int32) (m_token : Int32) (m_error : Int32) (m_errorAt : Int32) (m_errorPosition : Int32) (m_nested : Int32) (m_codeCount : Int32) (m_buffer : Nat → Int32) (v1 : Int32) (m_beginsAt_9 : Int32) (m_error_9 : Int32) (m_limit_9 : Int32) (m_nested_9 : Int32) (m_next_9 : Int32) (m_token_9 : Int32) (hf : p10_startText m_buffer v1 = some (m_beginsAt_9, m_error_9, m_limit_9, m_nested_9, m_next_9, m_token_9)) : gM l dC dI cI cJ cZ yX10_startText cX10_startText 2 none (3) (62) [.ref (ad 0), .int v1] [(ad 0, .inr (10, oM ad m_undoCount m_thrown m_hasSnapshot a_m_fam m_rows m_lineLength m_formattedLength m_bufferLength m_limit m_next m_beginsAt m_token m_error m_errorAt m_errorPosition m_nested m_codeCount)), ((ad 24), .inl (cI, 800, .inl m_buffer))] [(ad 0, .inr (10, oM ad m_undoCount m_thrown m_hasSnapshot a_m_fam m_rows m_lineLength m_formattedLength m_bufferLength m_limit_9 m_next_9 m_beginsAt_9 m_token_9 m_error_9 m_errorAt m_errorPosition m_nested_9 m_codeCount)), ((ad 24), .inl (cI, 800, .inl m_buffer))] none := by
  refine g_start (own := RX10) (by decide +kernel) rfl (Nat.le_of_ble_eq_true rfl) ?_
  intro p e s m below meth c A ls S hr hlocks hE hP hD hS hA hl hin
  have hx := S.1
  have hb := S.2.1
  have hml := S.2.2.1
  have hown := S.2.2.2.1
  have htg : ∀ z ∈ gw, z.before ([.ref (ad 0), .int v1] : List Value).toArray s = true := fun w h => S.2.2.2.2 w (List.mem_cons_of_mem _ h)
  have hl : lv_has ls 2 [(0, .ref (ad 0)), (1, .int v1)] := hl
  have hS0 := hS
  obtain ⟨H, hH⟩ : ∃ H, H = s.heap := ⟨_, rfl⟩
  obtain ⟨locs, hlc⟩ : ∃ locs : List Loc, locs = [] := ⟨_, rfl⟩
  have hS : va_S A s.heap H locs := by rw [hH, hlc]; exact hS0
  have hP : va_P (dC, dI) vwCl [(ad 0, .inr (10, oM ad m_undoCount m_thrown m_hasSnapshot a_m_fam m_rows m_lineLength m_formattedLength m_bufferLength m_limit m_next m_beginsAt m_token m_error m_errorAt m_errorPosition m_nested m_codeCount)), ((ad 24), .inl (cI, 800, .inl m_buffer))] H := by rw [hH]; exact hP
  suffices hgo : W p l e ({ frames := 3, cells := 0, slots := 0, locals := 62 }) s m ([.ref (ad 0), .int v1] : List Value).toArray below meth c H locs 0 0 (MQ below (gQ dC dI none A [(ad 0, .inr (10, oM ad m_undoCount m_thrown m_hasSnapshot a_m_fam m_rows m_lineLength m_formattedLength m_bufferLength m_limit_9 m_next_9 m_beginsAt_9 m_token_9 m_error_9 m_errorAt m_errorPosition m_nested_9 m_codeCount)), ((ad 24), .inl (cI, 800, .inl m_buffer))]) ([.ref (ad 0), .int v1] : List Value).toArray s 0 0 A) (F0 m 0 ls []) by rw [hH, hlc] at hgo; exact hgo
  rw [p10_startText] at hf
  refine lv_aload_n hx hb dX10_startText_0 rfl (lv_at hl 0 rfl) ?_
  refine lv_iload_n hx hb dX10_startText_1 rfl (lv_at hl 1 rfl) ?_
  refine va_put (D := (dC, dI)) (ci := 10) (v := .int v1) (ty := .int) (C := RX10) (T := TX10) (N := 37) hx hb htg inX10 tyX10 tyX10_ok nmX10 hown hE.1 hP hD hS 0 rfl rfl 25 (by decide) (htg _ tw1407) (fun _ h9 => h9) rfl (by decide +kernel) rfl rfl (Nat.le_of_ble_eq_true rfl) dX10_startText_2 (fun H locs hP hD hS => ?_)
  have hP : va_P (dC, dI) vwCl [(ad 0, .inr (10, oM ad m_undoCount m_thrown m_hasSnapshot a_m_fam m_rows m_lineLength m_formattedLength m_bufferLength v1 m_next m_beginsAt m_token m_error m_errorAt m_errorPosition m_nested m_codeCount)), ((ad 24), .inl (cI, 800, .inl m_buffer))] H := hP
  have hD : va_D A [(ad 0, .inr (10, oM ad m_undoCount m_thrown m_hasSnapshot a_m_fam m_rows m_lineLength m_formattedLength m_bufferLength v1 m_next m_beginsAt m_token m_error m_errorAt m_errorPosition m_nested m_codeCount)), ((ad 24), .inl (cI, 800, .inl m_buffer))] := hD
  refine lv_aload_n hx hb dX10_startText_5 rfl (lv_at hl 0 rfl) ?_
  refine lv_iconst (v := 0) hx hb dX10_startText_6 (by decide) ?_
  refine va_put (D := (dC, dI)) (ci := 10) (v := .int (0 : Int32)) (ty := .int) (C := RX10) (T := TX10) (N := 37) hx hb htg inX10 tyX10 tyX10_ok nmX10 hown hE.1 hP hD hS 0 rfl rfl 26 (by decide) (htg _ tw1408) (fun _ h9 => h9) rfl (by decide +kernel) rfl rfl (Nat.le_of_ble_eq_true rfl) dX10_startText_7 (fun H locs hP hD hS => ?_)
  have hP : va_P (dC, dI) vwCl [(ad 0, .inr (10, oM ad m_undoCount m_thrown m_hasSnapshot a_m_fam m_rows m_lineLength m_formattedLength m_bufferLength v1 (0 : Int32) m_beginsAt m_token m_error m_errorAt m_errorPosition m_nested m_codeCount)), ((ad 24), .inl (cI, 800, .inl m_buffer))] H := hP
  have hD : va_D A [(ad 0, .inr (10, oM ad m_undoCount m_thrown m_hasSnapshot a_m_fam m_rows m_lineLength m_formattedLength m_bufferLength v1 (0 : Int32) m_beginsAt m_token m_error m_errorAt m_errorPosition m_nested m_codeCount)), ((ad 24), .inl (cI, 800, .inl m_buffer))] := hD
  refine lv_aload_n hx hb dX10_startText_10 rfl (lv_at hl 0 rfl) ?_
  refine lv_iconst (v := 0) hx hb dX10_startText_11 (by decide) ?_
  refine va_put (D := (dC, dI)) (ci := 10) (v := .int (0 : Int32)) (ty := .int) (C := RX10) (T := TX10) (N := 37) hx hb htg inX10 tyX10 tyX10_ok nmX10 hown hE.1 hP hD hS 0 rfl rfl 29 (by decide) (htg _ tw1411) (fun _ h9 => h9) rfl (by decide +kernel) rfl rfl (Nat.le_of_ble_eq_true rfl) dX10_startText_12 (fun H locs hP hD hS => ?_)
  have hP : va_P (dC, dI) vwCl [(ad 0, .inr (10, oM ad m_undoCount m_thrown m_hasSnapshot a_m_fam m_rows m_lineLength m_formattedLength m_bufferLength v1 (0 : Int32) m_beginsAt m_token (0 : Int32) m_errorAt m_errorPosition m_nested m_codeCount)), ((ad 24), .inl (cI, 800, .inl m_buffer))] H := hP
  have hD : va_D A [(ad 0, .inr (10, oM ad m_undoCount m_thrown m_hasSnapshot a_m_fam m_rows m_lineLength m_formattedLength m_bufferLength v1 (0 : Int32) m_beginsAt m_token (0 : Int32) m_errorAt m_errorPosition m_nested m_codeCount)), ((ad 24), .inl (cI, 800, .inl m_buffer))] := hD
  refine lv_aload_n hx hb dX10_startText_15 rfl (lv_at hl 0 rfl) ?_
  refine lv_iconst (v := 0) hx hb dX10_startText_16 (by decide) ?_
  refine va_put (D := (dC, dI)) (ci := 10) (v := .int (0 : Int32)) (ty := .int) (C := RX10) (T := TX10) (N := 37) hx hb htg inX10 tyX10 tyX10_ok nmX10 hown hE.1 hP hD hS 0 rfl rfl 32 (by decide) (htg _ tw1414) (fun _ h9 => h9) rfl (by decide +kernel) rfl rfl (Nat.le_of_ble_eq_true rfl) dX10_startText_17 (fun H locs hP hD hS => ?_)
  have hP : va_P (dC, dI) vwCl [(ad 0, .inr (10, oM ad m_undoCount m_thrown m_hasSnapshot a_m_fam m_rows m_lineLength m_formattedLength m_bufferLength v1 (0 : Int32) m_beginsAt m_token (0 : Int32) m_errorAt m_errorPosition (0 : Int32) m_codeCount)), ((ad 24), .inl (cI, 800, .inl m_buffer))] H := hP
  have hD : va_D A [(ad 0, .inr (10, oM ad m_undoCount m_thrown m_hasSnapshot a_m_fam m_rows m_lineLength m_formattedLength m_bufferLength v1 (0 : Int32) m_beginsAt m_token (0 : Int32) m_errorAt m_errorPosition (0 : Int32) m_codeCount)), ((ad 24), .inl (cI, 800, .inl m_buffer))] := hD
  refine lv_aload_n hx hb dX10_startText_20 rfl (lv_at hl 0 rfl) ?_
  obtain ⟨⟨m_beginsAt_21, m_next_21, m_token_21⟩, h9, hf⟩ := ob_s hf
  have hf := uc3_e hf
  refine gcV (index := 395) S hE (c_X10_scan ad a_m_fam m_undoCount m_thrown m_hasSnapshot m_rows m_lineLength m_formattedLength m_bufferLength v1 (0 : Int32) m_beginsAt m_token (0 : Int32) m_errorAt m_errorPosition (0 : Int32) m_codeCount m_buffer m_beginsAt_21 m_next_21 m_token_21 h9) mX10_scan tw1938 ⟨Nat.le_of_ble_eq_true rfl, Nat.le_of_ble_eq_true rfl⟩ hP hD hS hA ⟨Nat.zero_le _, Nat.zero_le _⟩ 0 10 rfl rfl rfl (wr := []) [0, 1] [] rfl rfl rfl rfl (by decide) (As := []) (rest := []) rfl hl.1 rfl (Nat.le_of_ble_eq_true rfl) dX10_startText_21 (fun H locs hP hD hS => ?_)
  refine W.eq (g2 := F0 m 24 ls []) rfl ?_
  have hP : va_P (dC, dI) vwCl [(ad 0, .inr (10, oM ad m_undoCount m_thrown m_hasSnapshot a_m_fam m_rows m_lineLength m_formattedLength m_bufferLength v1 m_next_21 m_beginsAt_21 m_token_21 (0 : Int32) m_errorAt m_errorPosition (0 : Int32) m_codeCount)), ((ad 24), .inl (cI, 800, .inl m_buffer))] H := hP
  have hD : va_D A [(ad 0, .inr (10, oM ad m_undoCount m_thrown m_hasSnapshot a_m_fam m_rows m_lineLength m_formattedLength m_bufferLength v1 m_next_21 m_beginsAt_21 m_token_21 (0 : Int32) m_errorAt m_errorPosition (0 : Int32) m_codeCount)), ((ad 24), .inl (cI, 800, .inl m_buffer))] := hD
  cases hf
  exact g_vret S hr hlocks hP hD hS dX10_startText_24
def p10_finish (m_error : Int32) (m_errorAt : Int32) : Int32 × Int32 × Int32 := (if m_error = (0 : Int32) then (m_error, (0 : Int32), (-1 : Int32)) else (m_error, (0 : Int32), m_errorAt))
set_option maxHeartbeats 4000000 in
set_option maxRecDepth 100000 in
theorem c_X10_finish (ad : Nat → Nat) (a_m_fam : Nat) (m_undoCount : Int32) (m_thrown : Int32) (m_hasSnapshot : Bool) (m_rows : Int32) (m_lineLength : Int32) (m_formattedLength : Int32) (m_bufferLength : Int32) (m_limit : Int32) (m_next : Int32) (m_beginsAt : Int32) (m_token : Int32) (m_error : Int32) (m_errorAt : Int32) (m_errorPosition : Int32) (m_nested : Int32) (m_codeCount : Int32) (r9 : Int32) (m_bufferLength_9 : Int32) (m_errorPosition_9 : Int32) (hf : p10_finish m_error m_errorAt = (r9, m_bufferLength_9, m_errorPosition_9)) : gM l dC dI cI cJ cZ yX10_finish cX10_finish 1 (some .int) (0) (0) [.ref (ad 0)] [(ad 0, .inr (10, oM ad m_undoCount m_thrown m_hasSnapshot a_m_fam m_rows m_lineLength m_formattedLength m_bufferLength m_limit m_next m_beginsAt m_token m_error m_errorAt m_errorPosition m_nested m_codeCount))] [(ad 0, .inr (10, oM ad m_undoCount m_thrown m_hasSnapshot a_m_fam m_rows m_lineLength m_formattedLength m_bufferLength_9 m_limit m_next m_beginsAt m_token m_error m_errorAt m_errorPosition_9 m_nested m_codeCount))] (some (.int r9)) := by
  refine g_start (own := RX10) (by decide +kernel) rfl (Nat.le_of_ble_eq_true rfl) ?_
  intro p e s m below meth c A ls S hr hlocks hE hP hD hS hA hl hin
  have hx := S.1
  have hb := S.2.1
  have hml := S.2.2.1
  have hown := S.2.2.2.1
  have htg : ∀ z ∈ gw, z.before ([.ref (ad 0)] : List Value).toArray s = true := fun w h => S.2.2.2.2 w (List.mem_cons_of_mem _ h)
  have hl : lv_has ls 1 [(0, .ref (ad 0))] := hl
  have hS0 := hS
  obtain ⟨H, hH⟩ : ∃ H, H = s.heap := ⟨_, rfl⟩
  obtain ⟨locs, hlc⟩ : ∃ locs : List Loc, locs = [] := ⟨_, rfl⟩
  have hS : va_S A s.heap H locs := by rw [hH, hlc]; exact hS0
  have hP : va_P (dC, dI) vwCl [(ad 0, .inr (10, oM ad m_undoCount m_thrown m_hasSnapshot a_m_fam m_rows m_lineLength m_formattedLength m_bufferLength m_limit m_next m_beginsAt m_token m_error m_errorAt m_errorPosition m_nested m_codeCount))] H := by rw [hH]; exact hP
  suffices hgo : W p l e ({ frames := 0, cells := 0, slots := 0, locals := 0 }) s m ([.ref (ad 0)] : List Value).toArray below meth c H locs 0 0 (MQ below (gQ dC dI (some (.int r9)) A [(ad 0, .inr (10, oM ad m_undoCount m_thrown m_hasSnapshot a_m_fam m_rows m_lineLength m_formattedLength m_bufferLength_9 m_limit m_next m_beginsAt m_token m_error m_errorAt m_errorPosition_9 m_nested m_codeCount))]) ([.ref (ad 0)] : List Value).toArray s 0 0 A) (F0 m 0 ls []) by rw [hH, hlc] at hgo; exact hgo
  rw [p10_finish] at hf
  refine lv_aload_n hx hb dX10_finish_0 rfl (lv_at hl 0 rfl) ?_
  refine lv_iconst (v := 0) hx hb dX10_finish_1 (by decide) ?_
  refine va_put (D := (dC, dI)) (ci := 10) (v := .int (0 : Int32)) (ty := .int) (C := RX10) (T := TX10) (N := 37) hx hb htg inX10 tyX10 tyX10_ok nmX10 hown hE.1 hP hD hS 0 rfl rfl 24 (by decide) (htg _ tw1406) (fun _ h9 => h9) rfl (by decide +kernel) rfl rfl (Nat.le_of_ble_eq_true rfl) dX10_finish_2 (fun H locs hP hD hS => ?_)
  have hP : va_P (dC, dI) vwCl [(ad 0, .inr (10, oM ad m_undoCount m_thrown m_hasSnapshot a_m_fam m_rows m_lineLength m_formattedLength (0 : Int32) m_limit m_next m_beginsAt m_token m_error m_errorAt m_errorPosition m_nested m_codeCount))] H := hP
  have hD : va_D A [(ad 0, .inr (10, oM ad m_undoCount m_thrown m_hasSnapshot a_m_fam m_rows m_lineLength m_formattedLength (0 : Int32) m_limit m_next m_beginsAt m_token m_error m_errorAt m_errorPosition m_nested m_codeCount))] := hD
  refine lv_aload_n hx hb dX10_finish_5 rfl (lv_at hl 0 rfl) ?_
  refine lv_aload_n hx hb dX10_finish_6 rfl (lv_at hl 0 rfl) ?_
  refine va_get (D := (dC, dI)) (ci := 10) (v := .int m_error) (C := RX10) (T := TX10) (N := 37) hx hb htg inX10 hown hE.1 hP 0 rfl rfl 29 (by decide) (htg _ tw1411) (fun _ h9 => h9) rfl dX10_finish_7 ?_
  refine lv_if_ne (tgt := 17) hx hb dX10_finish_10 (by decide) (fun h9 => ?_) (fun h9 => ?_)
  · have hf := itf h9 hf
    refine lv_aload_n hx hb dX10_finish_17 rfl (lv_at hl 0 rfl) ?_
    refine va_get (D := (dC, dI)) (ci := 10) (v := .int m_errorAt) (C := RX10) (T := TX10) (N := 37) hx hb htg inX10 hown hE.1 hP 0 rfl rfl 30 (by decide) (htg _ tw1412) (fun _ h9 => h9) rfl dX10_finish_18 ?_
    refine va_put (D := (dC, dI)) (ci := 10) (v := .int m_errorAt) (ty := .int) (C := RX10) (T := TX10) (N := 37) hx hb htg inX10 tyX10 tyX10_ok nmX10 hown hE.1 hP hD hS 0 rfl rfl 31 (by decide) (htg _ tw1413) (fun _ h9 => h9) rfl (by decide +kernel) rfl rfl (Nat.le_of_ble_eq_true rfl) dX10_finish_21 (fun H locs hP hD hS => ?_)
    have hP : va_P (dC, dI) vwCl [(ad 0, .inr (10, oM ad m_undoCount m_thrown m_hasSnapshot a_m_fam m_rows m_lineLength m_formattedLength (0 : Int32) m_limit m_next m_beginsAt m_token m_error m_errorAt m_errorAt m_nested m_codeCount))] H := hP
    have hD : va_D A [(ad 0, .inr (10, oM ad m_undoCount m_thrown m_hasSnapshot a_m_fam m_rows m_lineLength m_formattedLength (0 : Int32) m_limit m_next m_beginsAt m_token m_error m_errorAt m_errorAt m_nested m_codeCount))] := hD
    refine lv_aload_n hx hb dX10_finish_24 rfl (lv_at hl 0 rfl) ?_
    refine va_get (D := (dC, dI)) (ci := 10) (v := .int m_error) (C := RX10) (T := TX10) (N := 37) hx hb htg inX10 hown hE.1 hP 0 rfl rfl 29 (by decide) (htg _ tw1411) (fun _ h9 => h9) rfl dX10_finish_25 ?_
    cases hf
    exact g_iret S hr hlocks hP hD hS dX10_finish_28
  · have hf := itt h9 hf
    refine lv_iconst (v := -1) hx hb dX10_finish_13 (by decide) ?_
    refine lv_goto (tgt := 21) hx hb dX10_finish_14 (by decide) ?_
    refine va_put (D := (dC, dI)) (ci := 10) (v := .int (-1 : Int32)) (ty := .int) (C := RX10) (T := TX10) (N := 37) hx hb htg inX10 tyX10 tyX10_ok nmX10 hown hE.1 hP hD hS 0 rfl rfl 31 (by decide) (htg _ tw1413) (fun _ h9 => h9) rfl (by decide +kernel) rfl rfl (Nat.le_of_ble_eq_true rfl) dX10_finish_21 (fun H locs hP hD hS => ?_)
    have hP : va_P (dC, dI) vwCl [(ad 0, .inr (10, oM ad m_undoCount m_thrown m_hasSnapshot a_m_fam m_rows m_lineLength m_formattedLength (0 : Int32) m_limit m_next m_beginsAt m_token m_error m_errorAt (-1 : Int32) m_nested m_codeCount))] H := hP
    have hD : va_D A [(ad 0, .inr (10, oM ad m_undoCount m_thrown m_hasSnapshot a_m_fam m_rows m_lineLength m_formattedLength (0 : Int32) m_limit m_next m_beginsAt m_token m_error m_errorAt (-1 : Int32) m_nested m_codeCount))] := hD
    refine lv_aload_n hx hb dX10_finish_24 rfl (lv_at hl 0 rfl) ?_
    refine va_get (D := (dC, dI)) (ci := 10) (v := .int m_error) (C := RX10) (T := TX10) (N := 37) hx hb htg inX10 hown hE.1 hP 0 rfl rfl 29 (by decide) (htg _ tw1411) (fun _ h9 => h9) rfl dX10_finish_25 ?_
    cases hf
    exact g_iret S hr hlocks hP hD hS dX10_finish_28
def p10_flaw (m_beginsAt : Int32) (m_error : Int32) (m_errorAt : Int32) (v1 : Int32) : Int32 × Int32 := (if m_error = (0 : Int32) then (v1, m_beginsAt) else (m_error, m_errorAt))
set_option maxHeartbeats 4000000 in
set_option maxRecDepth 100000 in
theorem c_X10_flaw (ad : Nat → Nat) (a_m_fam : Nat) (m_undoCount : Int32) (m_thrown : Int32) (m_hasSnapshot : Bool) (m_rows : Int32) (m_lineLength : Int32) (m_formattedLength : Int32) (m_bufferLength : Int32) (m_limit : Int32) (m_next : Int32) (m_beginsAt : Int32) (m_token : Int32) (m_error : Int32) (m_errorAt : Int32) (m_errorPosition : Int32) (m_nested : Int32) (m_codeCount : Int32) (v1 : Int32) (m_error_9 : Int32) (m_errorAt_9 : Int32) (hf : p10_flaw m_beginsAt m_error m_errorAt v1 = (m_error_9, m_errorAt_9)) : gM l dC dI cI cJ cZ yX10_flaw cX10_flaw 2 none (0) (0) [.ref (ad 0), .int v1] [(ad 0, .inr (10, oM ad m_undoCount m_thrown m_hasSnapshot a_m_fam m_rows m_lineLength m_formattedLength m_bufferLength m_limit m_next m_beginsAt m_token m_error m_errorAt m_errorPosition m_nested m_codeCount))] [(ad 0, .inr (10, oM ad m_undoCount m_thrown m_hasSnapshot a_m_fam m_rows m_lineLength m_formattedLength m_bufferLength m_limit m_next m_beginsAt m_token m_error_9 m_errorAt_9 m_errorPosition m_nested m_codeCount))] none := by
  refine g_start (own := RX10) (by decide +kernel) rfl (Nat.le_of_ble_eq_true rfl) ?_
  intro p e s m below meth c A ls S hr hlocks hE hP hD hS hA hl hin
  have hx := S.1
  have hb := S.2.1
  have hml := S.2.2.1
  have hown := S.2.2.2.1
  have htg : ∀ z ∈ gw, z.before ([.ref (ad 0), .int v1] : List Value).toArray s = true := fun w h => S.2.2.2.2 w (List.mem_cons_of_mem _ h)
  have hl : lv_has ls 2 [(0, .ref (ad 0)), (1, .int v1)] := hl
  have hS0 := hS
  obtain ⟨H, hH⟩ : ∃ H, H = s.heap := ⟨_, rfl⟩
  obtain ⟨locs, hlc⟩ : ∃ locs : List Loc, locs = [] := ⟨_, rfl⟩
  have hS : va_S A s.heap H locs := by rw [hH, hlc]; exact hS0
  have hP : va_P (dC, dI) vwCl [(ad 0, .inr (10, oM ad m_undoCount m_thrown m_hasSnapshot a_m_fam m_rows m_lineLength m_formattedLength m_bufferLength m_limit m_next m_beginsAt m_token m_error m_errorAt m_errorPosition m_nested m_codeCount))] H := by rw [hH]; exact hP
  suffices hgo : W p l e ({ frames := 0, cells := 0, slots := 0, locals := 0 }) s m ([.ref (ad 0), .int v1] : List Value).toArray below meth c H locs 0 0 (MQ below (gQ dC dI none A [(ad 0, .inr (10, oM ad m_undoCount m_thrown m_hasSnapshot a_m_fam m_rows m_lineLength m_formattedLength m_bufferLength m_limit m_next m_beginsAt m_token m_error_9 m_errorAt_9 m_errorPosition m_nested m_codeCount))]) ([.ref (ad 0), .int v1] : List Value).toArray s 0 0 A) (F0 m 0 ls []) by rw [hH, hlc] at hgo; exact hgo
  rw [p10_flaw] at hf
  refine lv_aload_n hx hb dX10_flaw_0 rfl (lv_at hl 0 rfl) ?_
  refine va_get (D := (dC, dI)) (ci := 10) (v := .int m_error) (C := RX10) (T := TX10) (N := 37) hx hb htg inX10 hown hE.1 hP 0 rfl rfl 29 (by decide) (htg _ tw1411) (fun _ h9 => h9) rfl dX10_flaw_1 ?_
  refine lv_if_ne (tgt := 20) hx hb dX10_flaw_4 (by decide) (fun h9 => ?_) (fun h9 => ?_)
  · have hf := itf h9 hf
    cases hf
    exact g_vret S hr hlocks hP hD hS dX10_flaw_20
  · have hf := itt h9 hf
    refine lv_aload_n hx hb dX10_flaw_7 rfl (lv_at hl 0 rfl) ?_
    refine lv_iload_n hx hb dX10_flaw_8 rfl (lv_at hl 1 rfl) ?_
    refine va_put (D := (dC, dI)) (ci := 10) (v := .int v1) (ty := .int) (C := RX10) (T := TX10) (N := 37) hx hb htg inX10 tyX10 tyX10_ok nmX10 hown hE.1 hP hD hS 0 rfl rfl 29 (by decide) (htg _ tw1411) (fun _ h9 => h9) rfl (by decide +kernel) rfl rfl (Nat.le_of_ble_eq_true rfl) dX10_flaw_9 (fun H locs hP hD hS => ?_)
    have hP : va_P (dC, dI) vwCl [(ad 0, .inr (10, oM ad m_undoCount m_thrown m_hasSnapshot a_m_fam m_rows m_lineLength m_formattedLength m_bufferLength m_limit m_next m_beginsAt m_token v1 m_errorAt m_errorPosition m_nested m_codeCount))] H := hP
    have hD : va_D A [(ad 0, .inr (10, oM ad m_undoCount m_thrown m_hasSnapshot a_m_fam m_rows m_lineLength m_formattedLength m_bufferLength m_limit m_next m_beginsAt m_token v1 m_errorAt m_errorPosition m_nested m_codeCount))] := hD
    refine lv_aload_n hx hb dX10_flaw_12 rfl (lv_at hl 0 rfl) ?_
    refine lv_aload_n hx hb dX10_flaw_13 rfl (lv_at hl 0 rfl) ?_
    refine va_get (D := (dC, dI)) (ci := 10) (v := .int m_beginsAt) (C := RX10) (T := TX10) (N := 37) hx hb htg inX10 hown hE.1 hP 0 rfl rfl 27 (by decide) (htg _ tw1409) (fun _ h9 => h9) rfl dX10_flaw_14 ?_
    refine va_put (D := (dC, dI)) (ci := 10) (v := .int m_beginsAt) (ty := .int) (C := RX10) (T := TX10) (N := 37) hx hb htg inX10 tyX10 tyX10_ok nmX10 hown hE.1 hP hD hS 0 rfl rfl 30 (by decide) (htg _ tw1412) (fun _ h9 => h9) rfl (by decide +kernel) rfl rfl (Nat.le_of_ble_eq_true rfl) dX10_flaw_17 (fun H locs hP hD hS => ?_)
    have hP : va_P (dC, dI) vwCl [(ad 0, .inr (10, oM ad m_undoCount m_thrown m_hasSnapshot a_m_fam m_rows m_lineLength m_formattedLength m_bufferLength m_limit m_next m_beginsAt m_token v1 m_beginsAt m_errorPosition m_nested m_codeCount))] H := hP
    have hD : va_D A [(ad 0, .inr (10, oM ad m_undoCount m_thrown m_hasSnapshot a_m_fam m_rows m_lineLength m_formattedLength m_bufferLength m_limit m_next m_beginsAt m_token v1 m_beginsAt m_errorPosition m_nested m_codeCount))] := hD
    cases hf
    exact g_vret S hr hlocks hP hD hS dX10_flaw_20
def p10_check (m_beginsAt : Int32) (m_error : Int32) (m_errorAt : Int32) (v1 : Bool) (v2 : Int32) : Int32 × Int32 := (cond v1 (m_error, m_errorAt) (lb (p10_flaw m_beginsAt m_error m_errorAt v2) (uc2 fun m_error_6 m_errorAt_6 => (m_error_6, m_errorAt_6))))
set_option maxHeartbeats 4000000 in
set_option maxRecDepth 100000 in
theorem c_X10_check (ad : Nat → Nat) (a_m_fam : Nat) (m_undoCount : Int32) (m_thrown : Int32) (m_hasSnapshot : Bool) (m_rows : Int32) (m_lineLength : Int32) (m_formattedLength : Int32) (m_bufferLength : Int32) (m_limit : Int32) (m_next : Int32) (m_beginsAt : Int32) (m_token : Int32) (m_error : Int32) (m_errorAt : Int32) (m_errorPosition : Int32) (m_nested : Int32) (m_codeCount : Int32) (v1 : Bool) (v2 : Int32) (m_error_9 : Int32) (m_errorAt_9 : Int32) (hf : p10_check m_beginsAt m_error m_errorAt v1 v2 = (m_error_9, m_errorAt_9)) : gM l dC dI cI cJ cZ yX10_check cX10_check 3 none (1) (21) [.ref (ad 0), .int (bI v1), .int v2] [(ad 0, .inr (10, oM ad m_undoCount m_thrown m_hasSnapshot a_m_fam m_rows m_lineLength m_formattedLength m_bufferLength m_limit m_next m_beginsAt m_token m_error m_errorAt m_errorPosition m_nested m_codeCount))] [(ad 0, .inr (10, oM ad m_undoCount m_thrown m_hasSnapshot a_m_fam m_rows m_lineLength m_formattedLength m_bufferLength m_limit m_next m_beginsAt m_token m_error_9 m_errorAt_9 m_errorPosition m_nested m_codeCount))] none := by
  refine g_start (own := RX10) (by decide +kernel) rfl (Nat.le_of_ble_eq_true rfl) ?_
  intro p e s m below meth c A ls S hr hlocks hE hP hD hS hA hl hin
  have hx := S.1
  have hb := S.2.1
  have hml := S.2.2.1
  have hown := S.2.2.2.1
  have htg : ∀ z ∈ gw, z.before ([.ref (ad 0), .int (bI v1), .int v2] : List Value).toArray s = true := fun w h => S.2.2.2.2 w (List.mem_cons_of_mem _ h)
  have hl : lv_has ls 3 [(0, .ref (ad 0)), (1, .int (bI v1)), (2, .int v2)] := hl
  have hS0 := hS
  obtain ⟨H, hH⟩ : ∃ H, H = s.heap := ⟨_, rfl⟩
  obtain ⟨locs, hlc⟩ : ∃ locs : List Loc, locs = [] := ⟨_, rfl⟩
  have hS : va_S A s.heap H locs := by rw [hH, hlc]; exact hS0
  have hP : va_P (dC, dI) vwCl [(ad 0, .inr (10, oM ad m_undoCount m_thrown m_hasSnapshot a_m_fam m_rows m_lineLength m_formattedLength m_bufferLength m_limit m_next m_beginsAt m_token m_error m_errorAt m_errorPosition m_nested m_codeCount))] H := by rw [hH]; exact hP
  suffices hgo : W p l e ({ frames := 1, cells := 0, slots := 0, locals := 21 }) s m ([.ref (ad 0), .int (bI v1), .int v2] : List Value).toArray below meth c H locs 0 0 (MQ below (gQ dC dI none A [(ad 0, .inr (10, oM ad m_undoCount m_thrown m_hasSnapshot a_m_fam m_rows m_lineLength m_formattedLength m_bufferLength m_limit m_next m_beginsAt m_token m_error_9 m_errorAt_9 m_errorPosition m_nested m_codeCount))]) ([.ref (ad 0), .int (bI v1), .int v2] : List Value).toArray s 0 0 A) (F0 m 0 ls []) by rw [hH, hlc] at hgo; exact hgo
  rw [p10_check] at hf
  refine lv_iload_n hx hb dX10_check_0 rfl (lv_at hl 1 rfl) ?_
  refine lv_if_ne (tgt := 9) hx hb dX10_check_1 (by decide) (fun h9 => ?_) (fun h9 => ?_)
  · have hf := ctt (bI_1 h9) hf
    cases hf
    exact g_vret S hr hlocks hP hD hS dX10_check_9
  · have hf := ctf (bI_0 h9) hf
    refine lv_aload_n hx hb dX10_check_4 rfl (lv_at hl 0 rfl) ?_
    refine lv_iload_n hx hb dX10_check_5 rfl (lv_at hl 2 rfl) ?_
    obtain ⟨m_error_6, m_errorAt_6, h9⟩ : ∃ m_error_6 m_errorAt_6, p10_flaw m_beginsAt m_error m_errorAt v2 = (m_error_6, m_errorAt_6) := ⟨_, _, rfl⟩
    have hf := uc2_e (lb_e h9.symm hf)
    refine gcV (index := 401) S hE (c_X10_flaw ad a_m_fam m_undoCount m_thrown m_hasSnapshot m_rows m_lineLength m_formattedLength m_bufferLength m_limit m_next m_beginsAt m_token m_error m_errorAt m_errorPosition m_nested m_codeCount v2 m_error_6 m_errorAt_6 h9) mX10_flaw tw1972 ⟨Nat.le_of_ble_eq_true rfl, Nat.le_of_ble_eq_true rfl⟩ hP hD hS hA ⟨Nat.zero_le _, Nat.zero_le _⟩ 0 10 rfl rfl rfl (wr := []) [0] [] rfl rfl rfl rfl (by decide) (As := [.int v2]) (rest := []) rfl hl.1 rfl (Nat.le_of_ble_eq_true rfl) dX10_check_6 (fun H locs hP hD hS => ?_)
    refine W.eq (g2 := F0 m 9 ls []) rfl ?_
    have hP : va_P (dC, dI) vwCl [(ad 0, .inr (10, oM ad m_undoCount m_thrown m_hasSnapshot a_m_fam m_rows m_lineLength m_formattedLength m_bufferLength m_limit m_next m_beginsAt m_token m_error_6 m_errorAt_6 m_errorPosition m_nested m_codeCount))] H := hP
    have hD : va_D A [(ad 0, .inr (10, oM ad m_undoCount m_thrown m_hasSnapshot a_m_fam m_rows m_lineLength m_formattedLength m_bufferLength m_limit m_next m_beginsAt m_token m_error_6 m_errorAt_6 m_errorPosition m_nested m_codeCount))] := hD
    cases hf
    exact g_vret S hr hlocks hP hD hS dX10_check_9
def p10_advance (m_limit : Int32) (m_next : Int32) (m_beginsAt : Int32) (m_token : Int32) (m_error : Int32) (m_buffer : Nat → Int32) : Option (Int32 × Int32 × Int32) := (if m_error = (0 : Int32) then ob (p10_scan m_limit m_next m_buffer) (uc3 fun m_beginsAt_8 m_next_8 m_token_8 => some (m_beginsAt_8, m_next_8, m_token_8)) else some (m_beginsAt, m_next, m_token))
set_option maxHeartbeats 4000000 in
set_option maxRecDepth 100000 in
theorem c_X10_advance (ad : Nat → Nat) (a_m_fam : Nat) (m_undoCount : Int32) (m_thrown : Int32) (m_hasSnapshot : Bool) (m_rows : Int32) (m_lineLength : Int32) (m_formattedLength : Int32) (m_bufferLength : Int32) (m_limit : Int32) (m_next : Int32) (m_beginsAt : Int32) (m_token : Int32) (m_error : Int32) (m_errorAt : Int32) (m_errorPosition : Int32) (m_nested : Int32) (m_codeCount : Int32) (m_buffer : Nat → Int32) (m_beginsAt_9 : Int32) (m_next_9 : Int32) (m_token_9 : Int32) (hf : p10_advance m_limit m_next m_beginsAt m_token m_error m_buffer = some (m_beginsAt_9, m_next_9, m_token_9)) : gM l dC dI cI cJ cZ yX10_advance cX10_advance 1 none (3) (62) [.ref (ad 0)] [(ad 0, .inr (10, oM ad m_undoCount m_thrown m_hasSnapshot a_m_fam m_rows m_lineLength m_formattedLength m_bufferLength m_limit m_next m_beginsAt m_token m_error m_errorAt m_errorPosition m_nested m_codeCount)), ((ad 24), .inl (cI, 800, .inl m_buffer))] [(ad 0, .inr (10, oM ad m_undoCount m_thrown m_hasSnapshot a_m_fam m_rows m_lineLength m_formattedLength m_bufferLength m_limit m_next_9 m_beginsAt_9 m_token_9 m_error m_errorAt m_errorPosition m_nested m_codeCount)), ((ad 24), .inl (cI, 800, .inl m_buffer))] none := by
  refine g_start (own := RX10) (by decide +kernel) rfl (Nat.le_of_ble_eq_true rfl) ?_
  intro p e s m below meth c A ls S hr hlocks hE hP hD hS hA hl hin
  have hx := S.1
  have hb := S.2.1
  have hml := S.2.2.1
  have hown := S.2.2.2.1
  have htg : ∀ z ∈ gw, z.before ([.ref (ad 0)] : List Value).toArray s = true := fun w h => S.2.2.2.2 w (List.mem_cons_of_mem _ h)
  have hl : lv_has ls 1 [(0, .ref (ad 0))] := hl
  have hS0 := hS
  obtain ⟨H, hH⟩ : ∃ H, H = s.heap := ⟨_, rfl⟩
  obtain ⟨locs, hlc⟩ : ∃ locs : List Loc, locs = [] := ⟨_, rfl⟩
  have hS : va_S A s.heap H locs := by rw [hH, hlc]; exact hS0
  have hP : va_P (dC, dI) vwCl [(ad 0, .inr (10, oM ad m_undoCount m_thrown m_hasSnapshot a_m_fam m_rows m_lineLength m_formattedLength m_bufferLength m_limit m_next m_beginsAt m_token m_error m_errorAt m_errorPosition m_nested m_codeCount)), ((ad 24), .inl (cI, 800, .inl m_buffer))] H := by rw [hH]; exact hP
  suffices hgo : W p l e ({ frames := 3, cells := 0, slots := 0, locals := 62 }) s m ([.ref (ad 0)] : List Value).toArray below meth c H locs 0 0 (MQ below (gQ dC dI none A [(ad 0, .inr (10, oM ad m_undoCount m_thrown m_hasSnapshot a_m_fam m_rows m_lineLength m_formattedLength m_bufferLength m_limit m_next_9 m_beginsAt_9 m_token_9 m_error m_errorAt m_errorPosition m_nested m_codeCount)), ((ad 24), .inl (cI, 800, .inl m_buffer))]) ([.ref (ad 0)] : List Value).toArray s 0 0 A) (F0 m 0 ls []) by rw [hH, hlc] at hgo; exact hgo
  rw [p10_advance] at hf
  refine lv_aload_n hx hb dX10_advance_0 rfl (lv_at hl 0 rfl) ?_
  refine va_get (D := (dC, dI)) (ci := 10) (v := .int m_error) (C := RX10) (T := TX10) (N := 37) hx hb htg inX10 hown hE.1 hP 0 rfl rfl 29 (by decide) (htg _ tw1411) (fun _ h9 => h9) rfl dX10_advance_1 ?_
  refine lv_if_ne (tgt := 11) hx hb dX10_advance_4 (by decide) (fun h9 => ?_) (fun h9 => ?_)
  · have hf := itf h9 hf
    cases hf
    exact g_vret S hr hlocks hP hD hS dX10_advance_11
  · have hf := itt h9 hf
    refine lv_aload_n hx hb dX10_advance_7 rfl (lv_at hl 0 rfl) ?_
    obtain ⟨⟨m_beginsAt_8, m_next_8, m_token_8⟩, h9, hf⟩ := ob_s hf
    have hf := uc3_e hf
    refine gcV (index := 395) S hE (c_X10_scan ad a_m_fam m_undoCount m_thrown m_hasSnapshot m_rows m_lineLength m_formattedLength m_bufferLength m_limit m_next m_beginsAt m_token m_error m_errorAt m_errorPosition m_nested m_codeCount m_buffer m_beginsAt_8 m_next_8 m_token_8 h9) mX10_scan tw1938 ⟨Nat.le_of_ble_eq_true rfl, Nat.le_of_ble_eq_true rfl⟩ hP hD hS hA ⟨Nat.zero_le _, Nat.zero_le _⟩ 0 10 rfl rfl rfl (wr := []) [0, 1] [] rfl rfl rfl rfl (by decide) (As := []) (rest := []) rfl hl.1 rfl (Nat.le_of_ble_eq_true rfl) dX10_advance_8 (fun H locs hP hD hS => ?_)
    refine W.eq (g2 := F0 m 11 ls []) rfl ?_
    have hP : va_P (dC, dI) vwCl [(ad 0, .inr (10, oM ad m_undoCount m_thrown m_hasSnapshot a_m_fam m_rows m_lineLength m_formattedLength m_bufferLength m_limit m_next_8 m_beginsAt_8 m_token_8 m_error m_errorAt m_errorPosition m_nested m_codeCount)), ((ad 24), .inl (cI, 800, .inl m_buffer))] H := hP
    have hD : va_D A [(ad 0, .inr (10, oM ad m_undoCount m_thrown m_hasSnapshot a_m_fam m_rows m_lineLength m_formattedLength m_bufferLength m_limit m_next_8 m_beginsAt_8 m_token_8 m_error m_errorAt m_errorPosition m_nested m_codeCount)), ((ad 24), .inl (cI, 800, .inl m_buffer))] := hD
    cases hf
    exact g_vret S hr hlocks hP hD hS dX10_advance_11
def p10_isSymbol (m_beginsAt : Int32) (m_token : Int32) (m_error : Int32) (m_buffer : Nat → Int32) (v1 : Int32) : Option (Bool) := (if m_error = (0 : Int32) then (if m_token = (3 : Int32) then gd m_beginsAt 800 ((if (m_buffer m_beginsAt.toNatClampNeg) = v1 then some true else some false)) else some false) else some false)
set_option maxHeartbeats 4000000 in
set_option maxRecDepth 100000 in
theorem c_X10_isSymbol (ad : Nat → Nat) (a_m_fam : Nat) (m_undoCount : Int32) (m_thrown : Int32) (m_hasSnapshot : Bool) (m_rows : Int32) (m_lineLength : Int32) (m_formattedLength : Int32) (m_bufferLength : Int32) (m_limit : Int32) (m_next : Int32) (m_beginsAt : Int32) (m_token : Int32) (m_error : Int32) (m_errorAt : Int32) (m_errorPosition : Int32) (m_nested : Int32) (m_codeCount : Int32) (m_buffer : Nat → Int32) (v1 : Int32) (r9 : Bool) (hf : p10_isSymbol m_beginsAt m_token m_error m_buffer v1 = some r9) : gM l dC dI cI cJ cZ yX10_isSymbol cX10_isSymbol 2 (some .boolean) (0) (0) [.ref (ad 0), .int v1] [(ad 0, .inr (10, oM ad m_undoCount m_thrown m_hasSnapshot a_m_fam m_rows m_lineLength m_formattedLength m_bufferLength m_limit m_next m_beginsAt m_token m_error m_errorAt m_errorPosition m_nested m_codeCount)), ((ad 24), .inl (cI, 800, .inl m_buffer))] [(ad 0, .inr (10, oM ad m_undoCount m_thrown m_hasSnapshot a_m_fam m_rows m_lineLength m_formattedLength m_bufferLength m_limit m_next m_beginsAt m_token m_error m_errorAt m_errorPosition m_nested m_codeCount)), ((ad 24), .inl (cI, 800, .inl m_buffer))] (some (.int (bI r9))) := by
  refine g_start (own := RX10) (by decide +kernel) rfl (Nat.le_of_ble_eq_true rfl) ?_
  intro p e s m below meth c A ls S hr hlocks hE hP hD hS hA hl hin
  have hx := S.1
  have hb := S.2.1
  have hml := S.2.2.1
  have hown := S.2.2.2.1
  have htg : ∀ z ∈ gw, z.before ([.ref (ad 0), .int v1] : List Value).toArray s = true := fun w h => S.2.2.2.2 w (List.mem_cons_of_mem _ h)
  have hl : lv_has ls 2 [(0, .ref (ad 0)), (1, .int v1)] := hl
  have hS0 := hS
  obtain ⟨H, hH⟩ : ∃ H, H = s.heap := ⟨_, rfl⟩
  obtain ⟨locs, hlc⟩ : ∃ locs : List Loc, locs = [] := ⟨_, rfl⟩
  have hS : va_S A s.heap H locs := by rw [hH, hlc]; exact hS0
  have hP : va_P (dC, dI) vwCl [(ad 0, .inr (10, oM ad m_undoCount m_thrown m_hasSnapshot a_m_fam m_rows m_lineLength m_formattedLength m_bufferLength m_limit m_next m_beginsAt m_token m_error m_errorAt m_errorPosition m_nested m_codeCount)), ((ad 24), .inl (cI, 800, .inl m_buffer))] H := by rw [hH]; exact hP
  suffices hgo : W p l e ({ frames := 0, cells := 0, slots := 0, locals := 0 }) s m ([.ref (ad 0), .int v1] : List Value).toArray below meth c H locs 0 0 (MQ below (gQ dC dI (some (.int (bI r9))) A [(ad 0, .inr (10, oM ad m_undoCount m_thrown m_hasSnapshot a_m_fam m_rows m_lineLength m_formattedLength m_bufferLength m_limit m_next m_beginsAt m_token m_error m_errorAt m_errorPosition m_nested m_codeCount)), ((ad 24), .inl (cI, 800, .inl m_buffer))]) ([.ref (ad 0), .int v1] : List Value).toArray s 0 0 A) (F0 m 0 ls []) by rw [hH, hlc] at hgo; exact hgo
  rw [p10_isSymbol] at hf
  refine lv_aload_n hx hb dX10_isSymbol_0 rfl (lv_at hl 0 rfl) ?_
  refine va_get (D := (dC, dI)) (ci := 10) (v := .int m_error) (C := RX10) (T := TX10) (N := 37) hx hb htg inX10 hown hE.1 hP 0 rfl rfl 29 (by decide) (htg _ tw1411) (fun _ h9 => h9) rfl dX10_isSymbol_1 ?_
  refine lv_if_ne (tgt := 32) hx hb dX10_isSymbol_4 (by decide) (fun h9 => ?_) (fun h9 => ?_)
  · have hf := itf h9 hf
    refine lv_iconst (v := 0) hx hb dX10_isSymbol_32 (by decide) ?_
    cases hf
    exact g_zret S hr (nar_bI false) hlocks hP hD hS dX10_isSymbol_33
  · have hf := itt h9 hf
    refine lv_aload_n hx hb dX10_isSymbol_7 rfl (lv_at hl 0 rfl) ?_
    refine va_get (D := (dC, dI)) (ci := 10) (v := .int m_token) (C := RX10) (T := TX10) (N := 37) hx hb htg inX10 hown hE.1 hP 0 rfl rfl 28 (by decide) (htg _ tw1410) (fun _ h9 => h9) rfl dX10_isSymbol_8 ?_
    refine lv_iconst (v := 3) hx hb dX10_isSymbol_11 (by decide) ?_
    refine lv_icmp_ne (tgt := 32) hx hb dX10_isSymbol_12 (by decide) (fun h9 => ?_) (fun h9 => ?_)
    · have hf := itf h9 hf
      refine lv_iconst (v := 0) hx hb dX10_isSymbol_32 (by decide) ?_
      cases hf
      exact g_zret S hr (nar_bI false) hlocks hP hD hS dX10_isSymbol_33
    · have hf := itt h9 hf
      refine lv_aload_n hx hb dX10_isSymbol_15 rfl (lv_at hl 0 rfl) ?_
      refine va_get (D := (dC, dI)) (ci := 10) (v := .ref (ad 24)) (C := RX10) (T := TX10) (N := 37) hx hb htg inX10 hown hE.1 hP 0 rfl rfl 23 (by decide) (htg _ tw1405) (fun _ h9 => h9) rfl dX10_isSymbol_16 ?_
      refine lv_aload_n hx hb dX10_isSymbol_19 rfl (lv_at hl 0 rfl) ?_
      refine va_get (D := (dC, dI)) (ci := 10) (v := .int m_beginsAt) (C := RX10) (T := TX10) (N := 37) hx hb htg inX10 hown hE.1 hP 0 rfl rfl 27 (by decide) (htg _ tw1409) (fun _ h9 => h9) rfl dX10_isSymbol_20 ?_
      obtain ⟨h9, hf⟩ := gd_s hf
      refine va_iald hx hb hE.1 hP 1 0 rfl rfl h9 dX10_isSymbol_23 ?_
      refine lv_iload_n hx hb dX10_isSymbol_24 rfl (lv_at hl 1 rfl) ?_
      refine lv_icmp_ne (tgt := 32) hx hb dX10_isSymbol_25 (by decide) (fun h9 => ?_) (fun h9 => ?_)
      · have hf := itf h9 hf
        refine lv_iconst (v := 0) hx hb dX10_isSymbol_32 (by decide) ?_
        cases hf
        exact g_zret S hr (nar_bI false) hlocks hP hD hS dX10_isSymbol_33
      · have hf := itt h9 hf
        refine lv_iconst (v := 1) hx hb dX10_isSymbol_28 (by decide) ?_
        refine lv_goto (tgt := 33) hx hb dX10_isSymbol_29 (by decide) ?_
        cases hf
        exact g_zret S hr (nar_bI true) hlocks hP hD hS dX10_isSymbol_33
def p10_isWord_J82 (v2_82 : Bool) : Option (Bool) := some v2_82
def p10_isWord_L39_B (m_beginsAt : Int32) (m_buffer : Nat → Int32) (v1 : Nat) (k39 : Bool → Int32 → Option (Bool)) (v2_39 : Bool) (v3_39 : Int32) : Option (Bool) := (cond v2_39 (if (Int32.ofNat (txl v1)) ≤ v3_39 then some v2_39 else gd v3_39 (txl v1) (gd (m_beginsAt + v3_39) 800 ((if (chv v1 v3_39.toNatClampNeg) = (m_buffer (m_beginsAt + v3_39).toNatClampNeg) then lb (v3_39 + (1 : Int32)) (fun t76 => (k39 true t76)) else lb (v3_39 + (1 : Int32)) (fun t76 => (k39 false t76)))))) (some v2_39))
def p10_isWord_L39 (m_beginsAt : Int32) (m_buffer : Nat → Int32) (v1 : Nat) : Nat → Bool → Int32 → Option (Bool)
  | 0, _, _ => none
  | n+1, v2_39, v3_39 => p10_isWord_L39_B m_beginsAt m_buffer v1 (p10_isWord_L39 m_beginsAt m_buffer v1 n) v2_39 v3_39
def p10_isWord_J37 (m_beginsAt : Int32) (m_buffer : Nat → Int32) (v1 : Nat) (v2_37 : Bool) : Option (Bool) := (ob (p10_isWord_L39 m_beginsAt m_buffer v1 FU v2_37 (0 : Int32)) (fun v2_x39 => p10_isWord_J82 v2_x39))
def p10_isWord_J35 (m_beginsAt : Int32) (m_buffer : Nat → Int32) (v1 : Nat) : Option (Bool) := (p10_isWord_J37 m_beginsAt m_buffer v1 false)
def p10_isWord (m_next : Int32) (m_beginsAt : Int32) (m_token : Int32) (m_error : Int32) (m_buffer : Nat → Int32) (v1 : Nat) : Option (Bool) := (if m_error = (0 : Int32) then (if m_token = (1 : Int32) then (if (Int32.ofNat (txl v1)) = (m_next - m_beginsAt) then (p10_isWord_J37 m_beginsAt m_buffer v1 true) else (p10_isWord_J35 m_beginsAt m_buffer v1)) else (p10_isWord_J35 m_beginsAt m_buffer v1)) else (p10_isWord_J35 m_beginsAt m_buffer v1))
set_option maxHeartbeats 4000000 in
set_option maxRecDepth 100000 in
theorem c_X10_isWord (ad : Nat → Nat) (a_m_fam : Nat) (m_undoCount : Int32) (m_thrown : Int32) (m_hasSnapshot : Bool) (m_rows : Int32) (m_lineLength : Int32) (m_formattedLength : Int32) (m_bufferLength : Int32) (m_limit : Int32) (m_next : Int32) (m_beginsAt : Int32) (m_token : Int32) (m_error : Int32) (m_errorAt : Int32) (m_errorPosition : Int32) (m_nested : Int32) (m_codeCount : Int32) (m_buffer : Nat → Int32) (v1 : Nat) (hv1 : v1 < 13) (r9 : Bool) (hf : p10_isWord m_next m_beginsAt m_token m_error m_buffer v1 = some r9) : gMH l dC dI cI cJ cZ adK adV yX10_isWord cX10_isWord 4 (some .boolean) (4) (85) [.ref (ad 0), .ref (adK v1)] [(ad 0, .inr (10, oM ad m_undoCount m_thrown m_hasSnapshot a_m_fam m_rows m_lineLength m_formattedLength m_bufferLength m_limit m_next m_beginsAt m_token m_error m_errorAt m_errorPosition m_nested m_codeCount)), ((ad 24), .inl (cI, 800, .inl m_buffer))] [(ad 0, .inr (10, oM ad m_undoCount m_thrown m_hasSnapshot a_m_fam m_rows m_lineLength m_formattedLength m_bufferLength m_limit m_next m_beginsAt m_token m_error m_errorAt m_errorPosition m_nested m_codeCount)), ((ad 24), .inl (cI, 800, .inl m_buffer))] (some (.int (bI r9))) := by
  refine g_startH (own := RX10) (by decide +kernel) rfl (Nat.le_of_ble_eq_true rfl) ?_
  intro p e s m below meth c A ls S hr hlocks hE hG hP hD hS hA hl hin
  have hx := S.1
  have hb := S.2.1
  have hml := S.2.2.1
  have hown := S.2.2.2.1
  have htg : ∀ z ∈ gw, z.before ([.ref (ad 0), .ref (adK v1)] : List Value).toArray s = true := fun w h => S.2.2.2.2 w (List.mem_cons_of_mem _ h)
  have hl : lv_has ls 4 [(0, .ref (ad 0)), (1, .ref (adK v1))] := hl
  have hS0 := hS
  obtain ⟨H, hH⟩ : ∃ H, H = s.heap := ⟨_, rfl⟩
  obtain ⟨locs, hlc⟩ : ∃ locs : List Loc, locs = [] := ⟨_, rfl⟩
  have hS : va_S A s.heap H locs := by rw [hH, hlc]; exact hS0
  have hP : va_P (dC, dI) vwCl [(ad 0, .inr (10, oM ad m_undoCount m_thrown m_hasSnapshot a_m_fam m_rows m_lineLength m_formattedLength m_bufferLength m_limit m_next m_beginsAt m_token m_error m_errorAt m_errorPosition m_nested m_codeCount)), ((ad 24), .inl (cI, 800, .inl m_buffer))] H := by rw [hH]; exact hP
  suffices hgo : W p l e ({ frames := 4, cells := 0, slots := 0, locals := 85 }) s m ([.ref (ad 0), .ref (adK v1)] : List Value).toArray below meth c H locs 0 0 (MQ below (gQ dC dI (some (.int (bI r9))) A [(ad 0, .inr (10, oM ad m_undoCount m_thrown m_hasSnapshot a_m_fam m_rows m_lineLength m_formattedLength m_bufferLength m_limit m_next m_beginsAt m_token m_error m_errorAt m_errorPosition m_nested m_codeCount)), ((ad 24), .inl (cI, 800, .inl m_buffer))]) ([.ref (ad 0), .ref (adK v1)] : List Value).toArray s 0 0 A) (F0 m 0 ls []) by rw [hH, hlc] at hgo; exact hgo
  rw [p10_isWord] at hf
  have J82 : ∀ (v2_82 : Bool) (H : Heap) (locs : List Loc) (ls : Array Slot), p10_isWord_J82 v2_82 = some r9 → va_P (dC, dI) vwCl [(ad 0, .inr (10, oM ad m_undoCount m_thrown m_hasSnapshot a_m_fam m_rows m_lineLength m_formattedLength m_bufferLength m_limit m_next m_beginsAt m_token m_error m_errorAt m_errorPosition m_nested m_codeCount)), ((ad 24), .inl (cI, 800, .inl m_buffer))] H → va_D A [(ad 0, .inr (10, oM ad m_undoCount m_thrown m_hasSnapshot a_m_fam m_rows m_lineLength m_formattedLength m_bufferLength m_limit m_next m_beginsAt m_token m_error m_errorAt m_errorPosition m_nested m_codeCount)), ((ad 24), .inl (cI, 800, .inl m_buffer))] → va_S A s.heap H locs → lv_has ls 4 [(2, .int (bI v2_82))] → W p l e ({ frames := 4, cells := 0, slots := 0, locals := 85 }) s m ([.ref (ad 0), .ref (adK v1)] : List Value).toArray below meth c H locs 0 0 (MQ below (gQ dC dI (some (.int (bI r9))) A [(ad 0, .inr (10, oM ad m_undoCount m_thrown m_hasSnapshot a_m_fam m_rows m_lineLength m_formattedLength m_bufferLength m_limit m_next m_beginsAt m_token m_error m_errorAt m_errorPosition m_nested m_codeCount)), ((ad 24), .inl (cI, 800, .inl m_buffer))]) ([.ref (ad 0), .ref (adK v1)] : List Value).toArray s 0 0 A) (F0 m 82 ls []) := by
    intro v2_82 H locs ls hf hP hD hS hl
    rw [p10_isWord_J82] at hf
    refine lv_iload_n hx hb dX10_isWord_82 rfl (lv_at hl 0 rfl) ?_
    cases hf
    exact g_zret S hr (nar_bI v2_82) hlocks hP hD hS dX10_isWord_83
  have J37 : ∀ (v2_37 : Bool) (H : Heap) (locs : List Loc) (ls : Array Slot), p10_isWord_J37 m_beginsAt m_buffer v1 v2_37 = some r9 → va_P (dC, dI) vwCl [(ad 0, .inr (10, oM ad m_undoCount m_thrown m_hasSnapshot a_m_fam m_rows m_lineLength m_formattedLength m_bufferLength m_limit m_next m_beginsAt m_token m_error m_errorAt m_errorPosition m_nested m_codeCount)), ((ad 24), .inl (cI, 800, .inl m_buffer))] H → va_D A [(ad 0, .inr (10, oM ad m_undoCount m_thrown m_hasSnapshot a_m_fam m_rows m_lineLength m_formattedLength m_bufferLength m_limit m_next m_beginsAt m_token m_error m_errorAt m_errorPosition m_nested m_codeCount)), ((ad 24), .inl (cI, 800, .inl m_buffer))] → va_S A s.heap H locs → lv_has ls 4 [(0, .ref (ad 0)), (1, .ref (adK v1)), (2, .int (bI v2_37))] → W p l e ({ frames := 4, cells := 0, slots := 0, locals := 85 }) s m ([.ref (ad 0), .ref (adK v1)] : List Value).toArray below meth c H locs 0 0 (MQ below (gQ dC dI (some (.int (bI r9))) A [(ad 0, .inr (10, oM ad m_undoCount m_thrown m_hasSnapshot a_m_fam m_rows m_lineLength m_formattedLength m_bufferLength m_limit m_next m_beginsAt m_token m_error m_errorAt m_errorPosition m_nested m_codeCount)), ((ad 24), .inl (cI, 800, .inl m_buffer))]) ([.ref (ad 0), .ref (adK v1)] : List Value).toArray s 0 0 A) (F0 m 37 ls []) := by
    intro v2_37 H locs ls hf hP hD hS hl
    rw [p10_isWord_J37] at hf
    refine lv_iconst (v := 0) hx hb dX10_isWord_37 (by decide) ?_
    refine lv_istore_n (lv' := [(3, .int (0 : Int32)), (0, .ref (ad 0)), (1, .ref (adK v1)), (2, .int (bI v2_37))]) hx hb dX10_isWord_38 rfl hl (by decide) rfl (fun ls hl => ?_)
    have K39 : ∀ (n39 : Nat) (v2_39 : Bool) (v3_39 : Int32) (ex39 : Bool) (H : Heap) (locs : List Loc) (ls : Array Slot), p10_isWord_L39 m_beginsAt m_buffer v1 n39 v2_39 v3_39 = some ex39 → (fun v2_x39 => p10_isWord_J82 v2_x39) ex39 = some r9 → va_P (dC, dI) vwCl [(ad 0, .inr (10, oM ad m_undoCount m_thrown m_hasSnapshot a_m_fam m_rows m_lineLength m_formattedLength m_bufferLength m_limit m_next m_beginsAt m_token m_error m_errorAt m_errorPosition m_nested m_codeCount)), ((ad 24), .inl (cI, 800, .inl m_buffer))] H → va_D A [(ad 0, .inr (10, oM ad m_undoCount m_thrown m_hasSnapshot a_m_fam m_rows m_lineLength m_formattedLength m_bufferLength m_limit m_next m_beginsAt m_token m_error m_errorAt m_errorPosition m_nested m_codeCount)), ((ad 24), .inl (cI, 800, .inl m_buffer))] → va_S A s.heap H locs → lv_has ls 4 [(0, .ref (ad 0)), (1, .ref (adK v1)), (2, .int (bI v2_39)), (3, .int v3_39)] → W p l e ({ frames := 4, cells := 0, slots := 0, locals := 85 }) s m ([.ref (ad 0), .ref (adK v1)] : List Value).toArray below meth c H locs 0 0 (MQ below (gQ dC dI (some (.int (bI r9))) A [(ad 0, .inr (10, oM ad m_undoCount m_thrown m_hasSnapshot a_m_fam m_rows m_lineLength m_formattedLength m_bufferLength m_limit m_next m_beginsAt m_token m_error m_errorAt m_errorPosition m_nested m_codeCount)), ((ad 24), .inl (cI, 800, .inl m_buffer))]) ([.ref (ad 0), .ref (adK v1)] : List Value).toArray s 0 0 A) (F0 m 39 ls []) := by
      intro n39
      induction n39 with
      | zero => intro v2_39 v3_39 ex39 H locs ls hf; rw [p10_isWord_L39] at hf; cases hf
      | succ n39 ih39 =>
        intro v2_39 v3_39 ex39 H locs ls hf hk39 hP hD hS hl
        rw [p10_isWord_L39, p10_isWord_L39_B] at hf
        refine lv_iload_n hx hb dX10_isWord_39 rfl (lv_at hl 2 rfl) ?_
        refine lv_if_eq (tgt := 82) hx hb dX10_isWord_40 (by decide) (fun h9 => ?_) (fun h9 => ?_)
        · have hf := ctf (bI_0 h9) hf
          cases hf
          have hf := hk39
          exact J82 v2_39 H locs ls hf hP hD hS (lv_sub hl [2] rfl)
        · have hf := ctt (bI_1 h9) hf
          refine lv_iload_n hx hb dX10_isWord_43 rfl (lv_at hl 3 rfl) ?_
          refine lv_aload_n hx hb dX10_isWord_44 rfl (lv_at hl 1 rfl) ?_
          refine gcRH (index := 404) S hE hG (c_J0_length v1 hv1) mJ0_length tw1962 ⟨Nat.le_of_ble_eq_true rfl, Nat.le_of_ble_eq_true rfl⟩ hP hD hS hA ⟨Nat.zero_le _, Nat.zero_le _⟩ ((hG.2.2.2.2.1 v1 hv1).recv hS) (wr := [(ad 0, .inr (10, oM ad m_undoCount m_thrown m_hasSnapshot a_m_fam m_rows m_lineLength m_formattedLength m_bufferLength m_limit m_next m_beginsAt m_token m_error m_errorAt m_errorPosition m_nested m_codeCount)), ((ad 24), .inl (cI, 800, .inl m_buffer))]) [] [0, 1] rfl rfl rfl (by decide) (by decide) (As := []) (rest := [.int v3_39]) rfl hl.1 rfl (Nat.le_of_ble_eq_true rfl) dX10_isWord_45 (fun H locs hP hD hS => ?_)
          refine W.eq (g2 := F0 m 48 ls [.int (Int32.ofNat (txl v1)), .int v3_39]) rfl ?_
          rw [List.append_nil] at hP hD
          have hP : va_P (dC, dI) vwCl [(ad 0, .inr (10, oM ad m_undoCount m_thrown m_hasSnapshot a_m_fam m_rows m_lineLength m_formattedLength m_bufferLength m_limit m_next m_beginsAt m_token m_error m_errorAt m_errorPosition m_nested m_codeCount)), ((ad 24), .inl (cI, 800, .inl m_buffer))] H := hP
          have hD : va_D A [(ad 0, .inr (10, oM ad m_undoCount m_thrown m_hasSnapshot a_m_fam m_rows m_lineLength m_formattedLength m_bufferLength m_limit m_next m_beginsAt m_token m_error m_errorAt m_errorPosition m_nested m_codeCount)), ((ad 24), .inl (cI, 800, .inl m_buffer))] := hD
          refine lv_icmp_ge (tgt := 82) hx hb dX10_isWord_48 (by decide) (fun h9 => ?_) (fun h9 => ?_)
          · have hf := itt h9 hf
            cases hf
            have hf := hk39
            exact J82 v2_39 H locs ls hf hP hD hS (lv_sub hl [2] rfl)
          · have hf := itf h9 hf
            refine lv_aload_n hx hb dX10_isWord_51 rfl (lv_at hl 1 rfl) ?_
            refine lv_iload_n hx hb dX10_isWord_52 rfl (lv_at hl 3 rfl) ?_
            obtain ⟨h9, hf⟩ := gd_s hf
            refine gcRH (index := 407) S hE hG (c_J0_charAt v1 hv1 v3_39 (fun q => h9 (Or.inl q)) (Nat.lt_of_not_le fun q => h9 (Or.inr q))) mJ0_charAt tw1963 ⟨Nat.le_of_ble_eq_true rfl, Nat.le_of_ble_eq_true rfl⟩ hP hD hS hA ⟨Nat.zero_le _, Nat.zero_le _⟩ ((hG.2.2.2.2.1 v1 hv1).recv hS) (wr := [(ad 0, .inr (10, oM ad m_undoCount m_thrown m_hasSnapshot a_m_fam m_rows m_lineLength m_formattedLength m_bufferLength m_limit m_next m_beginsAt m_token m_error m_errorAt m_errorPosition m_nested m_codeCount)), ((ad 24), .inl (cI, 800, .inl m_buffer))]) [] [0, 1] rfl rfl rfl (by decide) (by decide) (As := [.int v3_39]) (rest := []) rfl hl.1 rfl (Nat.le_of_ble_eq_true rfl) dX10_isWord_53 (fun H locs hP hD hS => ?_)
            refine W.eq (g2 := F0 m 56 ls [.int (chv v1 v3_39.toNatClampNeg)]) rfl ?_
            rw [List.append_nil] at hP hD
            have hP : va_P (dC, dI) vwCl [(ad 0, .inr (10, oM ad m_undoCount m_thrown m_hasSnapshot a_m_fam m_rows m_lineLength m_formattedLength m_bufferLength m_limit m_next m_beginsAt m_token m_error m_errorAt m_errorPosition m_nested m_codeCount)), ((ad 24), .inl (cI, 800, .inl m_buffer))] H := hP
            have hD : va_D A [(ad 0, .inr (10, oM ad m_undoCount m_thrown m_hasSnapshot a_m_fam m_rows m_lineLength m_formattedLength m_bufferLength m_limit m_next m_beginsAt m_token m_error m_errorAt m_errorPosition m_nested m_codeCount)), ((ad 24), .inl (cI, 800, .inl m_buffer))] := hD
            refine lv_aload_n hx hb dX10_isWord_56 rfl (lv_at hl 0 rfl) ?_
            refine va_get (D := (dC, dI)) (ci := 10) (v := .ref (ad 24)) (C := RX10) (T := TX10) (N := 37) hx hb htg inX10 hown hE.1 hP 0 rfl rfl 23 (by decide) (htg _ tw1405) (fun _ h9 => h9) rfl dX10_isWord_57 ?_
            refine lv_aload_n hx hb dX10_isWord_60 rfl (lv_at hl 0 rfl) ?_
            refine va_get (D := (dC, dI)) (ci := 10) (v := .int m_beginsAt) (C := RX10) (T := TX10) (N := 37) hx hb htg inX10 hown hE.1 hP 0 rfl rfl 27 (by decide) (htg _ tw1409) (fun _ h9 => h9) rfl dX10_isWord_61 ?_
            refine lv_iload_n hx hb dX10_isWord_64 rfl (lv_at hl 3 rfl) ?_
            refine lv_iadd hx hb dX10_isWord_65 ?_
            obtain ⟨h9, hf⟩ := gd_s hf
            refine va_iald hx hb hE.1 hP 1 0 rfl rfl h9 dX10_isWord_66 ?_
            refine lv_icmp_ne (tgt := 74) hx hb dX10_isWord_67 (by decide) (fun h9 => ?_) (fun h9 => ?_)
            · have hf := itf h9 hf
              refine lv_iconst (v := 0) hx hb dX10_isWord_74 (by decide) ?_
              refine lv_istore_n (lv' := [(2, .int (0 : Int32)), (0, .ref (ad 0)), (1, .ref (adK v1)), (3, .int v3_39)]) hx hb dX10_isWord_75 rfl hl (by decide) rfl (fun ls hl => ?_)
              obtain ⟨t76, h9⟩ : ∃ z : Int32, z = (v3_39 + (1 : Int32)) := ⟨_, rfl⟩
              have hf := lb_e h9 hf
              refine lv_iinc (v := t76) (lv' := [(3, .int t76), (2, .int (0 : Int32)), (0, .ref (ad 0)), (1, .ref (adK v1))]) hx hb dX10_isWord_76 hl (k := 3) rfl (by rw [h9]; rfl) (by decide) rfl (fun ls hl => ?_)
              refine lv_goto (tgt := 39) hx hb dX10_isWord_79 (by decide) ?_
              exact ih39 false t76 ex39 H locs ls hf hk39 hP hD hS (lv_sub hl [2, 3, 1, 0] rfl)
            · have hf := itt h9 hf
              refine lv_iconst (v := 1) hx hb dX10_isWord_70 (by decide) ?_
              refine lv_goto (tgt := 75) hx hb dX10_isWord_71 (by decide) ?_
              refine lv_istore_n (lv' := [(2, .int (1 : Int32)), (0, .ref (ad 0)), (1, .ref (adK v1)), (3, .int v3_39)]) hx hb dX10_isWord_75 rfl hl (by decide) rfl (fun ls hl => ?_)
              obtain ⟨t76, h9⟩ : ∃ z : Int32, z = (v3_39 + (1 : Int32)) := ⟨_, rfl⟩
              have hf := lb_e h9 hf
              refine lv_iinc (v := t76) (lv' := [(3, .int t76), (2, .int (1 : Int32)), (0, .ref (ad 0)), (1, .ref (adK v1))]) hx hb dX10_isWord_76 hl (k := 3) rfl (by rw [h9]; rfl) (by decide) rfl (fun ls hl => ?_)
              refine lv_goto (tgt := 39) hx hb dX10_isWord_79 (by decide) ?_
              exact ih39 true t76 ex39 H locs ls hf hk39 hP hD hS (lv_sub hl [2, 3, 1, 0] rfl)
    obtain ⟨ex, h9, hf⟩ := ob_s hf
    exact K39 FU v2_37 (0 : Int32) ex H locs ls h9 hf hP hD hS (lv_sub hl [1, 2, 3, 0] rfl)
  have J35 : ∀  (H : Heap) (locs : List Loc) (ls : Array Slot), p10_isWord_J35 m_beginsAt m_buffer v1 = some r9 → va_P (dC, dI) vwCl [(ad 0, .inr (10, oM ad m_undoCount m_thrown m_hasSnapshot a_m_fam m_rows m_lineLength m_formattedLength m_bufferLength m_limit m_next m_beginsAt m_token m_error m_errorAt m_errorPosition m_nested m_codeCount)), ((ad 24), .inl (cI, 800, .inl m_buffer))] H → va_D A [(ad 0, .inr (10, oM ad m_undoCount m_thrown m_hasSnapshot a_m_fam m_rows m_lineLength m_formattedLength m_bufferLength m_limit m_next m_beginsAt m_token m_error m_errorAt m_errorPosition m_nested m_codeCount)), ((ad 24), .inl (cI, 800, .inl m_buffer))] → va_S A s.heap H locs → lv_has ls 4 [(0, .ref (ad 0)), (1, .ref (adK v1))] → W p l e ({ frames := 4, cells := 0, slots := 0, locals := 85 }) s m ([.ref (ad 0), .ref (adK v1)] : List Value).toArray below meth c H locs 0 0 (MQ below (gQ dC dI (some (.int (bI r9))) A [(ad 0, .inr (10, oM ad m_undoCount m_thrown m_hasSnapshot a_m_fam m_rows m_lineLength m_formattedLength m_bufferLength m_limit m_next m_beginsAt m_token m_error m_errorAt m_errorPosition m_nested m_codeCount)), ((ad 24), .inl (cI, 800, .inl m_buffer))]) ([.ref (ad 0), .ref (adK v1)] : List Value).toArray s 0 0 A) (F0 m 35 ls []) := by
    intro  H locs ls hf hP hD hS hl
    rw [p10_isWord_J35] at hf
    refine lv_iconst (v := 0) hx hb dX10_isWord_35 (by decide) ?_
    refine lv_istore_n (lv' := [(2, .int (0 : Int32)), (0, .ref (ad 0)), (1, .ref (adK v1))]) hx hb dX10_isWord_36 rfl hl (by decide) rfl (fun ls hl => ?_)
    exact J37 false H locs ls hf hP hD hS (lv_sub hl [1, 2, 0] rfl)
  refine lv_aload_n hx hb dX10_isWord_0 rfl (lv_at hl 0 rfl) ?_
  refine va_get (D := (dC, dI)) (ci := 10) (v := .int m_error) (C := RX10) (T := TX10) (N := 37) hx hb htg inX10 hown hE.1 hP 0 rfl rfl 29 (by decide) (htg _ tw1411) (fun _ h9 => h9) rfl dX10_isWord_1 ?_
  refine lv_if_ne (tgt := 35) hx hb dX10_isWord_4 (by decide) (fun h9 => ?_) (fun h9 => ?_)
  · have hf := itf h9 hf
    exact J35 H locs ls hf hP hD hS (lv_sub hl [0, 1] rfl)
  · have hf := itt h9 hf
    refine lv_aload_n hx hb dX10_isWord_7 rfl (lv_at hl 0 rfl) ?_
    refine va_get (D := (dC, dI)) (ci := 10) (v := .int m_token) (C := RX10) (T := TX10) (N := 37) hx hb htg inX10 hown hE.1 hP 0 rfl rfl 28 (by decide) (htg _ tw1410) (fun _ h9 => h9) rfl dX10_isWord_8 ?_
    refine lv_iconst (v := 1) hx hb dX10_isWord_11 (by decide) ?_
    refine lv_icmp_ne (tgt := 35) hx hb dX10_isWord_12 (by decide) (fun h9 => ?_) (fun h9 => ?_)
    · have hf := itf h9 hf
      exact J35 H locs ls hf hP hD hS (lv_sub hl [0, 1] rfl)
    · have hf := itt h9 hf
      refine lv_aload_n hx hb dX10_isWord_15 rfl (lv_at hl 1 rfl) ?_
      refine gcRH (index := 404) S hE hG (c_J0_length v1 hv1) mJ0_length tw1962 ⟨Nat.le_of_ble_eq_true rfl, Nat.le_of_ble_eq_true rfl⟩ hP hD hS hA ⟨Nat.zero_le _, Nat.zero_le _⟩ ((hG.2.2.2.2.1 v1 hv1).recv hS) (wr := [(ad 0, .inr (10, oM ad m_undoCount m_thrown m_hasSnapshot a_m_fam m_rows m_lineLength m_formattedLength m_bufferLength m_limit m_next m_beginsAt m_token m_error m_errorAt m_errorPosition m_nested m_codeCount)), ((ad 24), .inl (cI, 800, .inl m_buffer))]) [] [0, 1] rfl rfl rfl (by decide) (by decide) (As := []) (rest := []) rfl hl.1 rfl (Nat.le_of_ble_eq_true rfl) dX10_isWord_16 (fun H locs hP hD hS => ?_)
      refine W.eq (g2 := F0 m 19 ls [.int (Int32.ofNat (txl v1))]) rfl ?_
      rw [List.append_nil] at hP hD
      have hP : va_P (dC, dI) vwCl [(ad 0, .inr (10, oM ad m_undoCount m_thrown m_hasSnapshot a_m_fam m_rows m_lineLength m_formattedLength m_bufferLength m_limit m_next m_beginsAt m_token m_error m_errorAt m_errorPosition m_nested m_codeCount)), ((ad 24), .inl (cI, 800, .inl m_buffer))] H := hP
      have hD : va_D A [(ad 0, .inr (10, oM ad m_undoCount m_thrown m_hasSnapshot a_m_fam m_rows m_lineLength m_formattedLength m_bufferLength m_limit m_next m_beginsAt m_token m_error m_errorAt m_errorPosition m_nested m_codeCount)), ((ad 24), .inl (cI, 800, .inl m_buffer))] := hD
      refine lv_aload_n hx hb dX10_isWord_19 rfl (lv_at hl 0 rfl) ?_
      refine va_get (D := (dC, dI)) (ci := 10) (v := .int m_next) (C := RX10) (T := TX10) (N := 37) hx hb htg inX10 hown hE.1 hP 0 rfl rfl 26 (by decide) (htg _ tw1408) (fun _ h9 => h9) rfl dX10_isWord_20 ?_
      refine lv_aload_n hx hb dX10_isWord_23 rfl (lv_at hl 0 rfl) ?_
      refine va_get (D := (dC, dI)) (ci := 10) (v := .int m_beginsAt) (C := RX10) (T := TX10) (N := 37) hx hb htg inX10 hown hE.1 hP 0 rfl rfl 27 (by decide) (htg _ tw1409) (fun _ h9 => h9) rfl dX10_isWord_24 ?_
      refine lv_isub hx hb dX10_isWord_27 ?_
      refine lv_icmp_ne (tgt := 35) hx hb dX10_isWord_28 (by decide) (fun h9 => ?_) (fun h9 => ?_)
      · have hf := itf h9 hf
        exact J35 H locs ls hf hP hD hS (lv_sub hl [0, 1] rfl)
      · have hf := itt h9 hf
        refine lv_iconst (v := 1) hx hb dX10_isWord_31 (by decide) ?_
        refine lv_goto (tgt := 36) hx hb dX10_isWord_32 (by decide) ?_
        refine lv_istore_n (lv' := [(2, .int (1 : Int32)), (0, .ref (ad 0)), (1, .ref (adK v1))]) hx hb dX10_isWord_36 rfl hl (by decide) rfl (fun ls hl => ?_)
        exact J37 true H locs ls hf hP hD hS (lv_sub hl [1, 2, 0] rfl)
def p10_accept (m_limit : Int32) (m_next : Int32) (m_beginsAt : Int32) (m_token : Int32) (m_error : Int32) (m_buffer : Nat → Int32) (v1 : Nat) : Option (Bool × Int32 × Int32 × Int32) := ob (p10_isWord m_next m_beginsAt m_token m_error m_buffer v1) (fun r2 => (cond r2 (ob (p10_scan m_limit m_next m_buffer) (uc3 fun m_beginsAt_11 m_next_11 m_token_11 => some (r2, m_beginsAt_11, m_next_11, m_token_11))) (some (r2, m_beginsAt, m_next, m_token))))
set_option maxHeartbeats 4000000 in
set_option maxRecDepth 100000 in
theorem c_X10_accept (ad : Nat → Nat) (a_m_fam : Nat) (m_undoCount : Int32) (m_thrown : Int32) (m_hasSnapshot : Bool) (m_rows : Int32) (m_lineLength : Int32) (m_formattedLength : Int32) (m_bufferLength : Int32) (m_limit : Int32) (m_next : Int32) (m_beginsAt : Int32) (m_token : Int32) (m_error : Int32) (m_errorAt : Int32) (m_errorPosition : Int32) (m_nested : Int32) (m_codeCount : Int32) (m_buffer : Nat → Int32) (v1 : Nat) (hv1 : v1 < 13) (r9 : Bool) (m_beginsAt_9 : Int32) (m_next_9 : Int32) (m_token_9 : Int32) (hf : p10_accept m_limit m_next m_beginsAt m_token m_error m_buffer v1 = some (r9, m_beginsAt_9, m_next_9, m_token_9)) : gMH l dC dI cI cJ cZ adK adV yX10_accept cX10_accept 3 (some .boolean) (5) (108) [.ref (ad 0), .ref (adK v1)] [(ad 0, .inr (10, oM ad m_undoCount m_thrown m_hasSnapshot a_m_fam m_rows m_lineLength m_formattedLength m_bufferLength m_limit m_next m_beginsAt m_token m_error m_errorAt m_errorPosition m_nested m_codeCount)), ((ad 24), .inl (cI, 800, .inl m_buffer))] [(ad 0, .inr (10, oM ad m_undoCount m_thrown m_hasSnapshot a_m_fam m_rows m_lineLength m_formattedLength m_bufferLength m_limit m_next_9 m_beginsAt_9 m_token_9 m_error m_errorAt m_errorPosition m_nested m_codeCount)), ((ad 24), .inl (cI, 800, .inl m_buffer))] (some (.int (bI r9))) := by
  refine g_startH (own := RX10) (by decide +kernel) rfl (Nat.le_of_ble_eq_true rfl) ?_
  intro p e s m below meth c A ls S hr hlocks hE hG hP hD hS hA hl hin
  have hx := S.1
  have hb := S.2.1
  have hml := S.2.2.1
  have hown := S.2.2.2.1
  have htg : ∀ z ∈ gw, z.before ([.ref (ad 0), .ref (adK v1)] : List Value).toArray s = true := fun w h => S.2.2.2.2 w (List.mem_cons_of_mem _ h)
  have hl : lv_has ls 3 [(0, .ref (ad 0)), (1, .ref (adK v1))] := hl
  have hS0 := hS
  obtain ⟨H, hH⟩ : ∃ H, H = s.heap := ⟨_, rfl⟩
  obtain ⟨locs, hlc⟩ : ∃ locs : List Loc, locs = [] := ⟨_, rfl⟩
  have hS : va_S A s.heap H locs := by rw [hH, hlc]; exact hS0
  have hP : va_P (dC, dI) vwCl [(ad 0, .inr (10, oM ad m_undoCount m_thrown m_hasSnapshot a_m_fam m_rows m_lineLength m_formattedLength m_bufferLength m_limit m_next m_beginsAt m_token m_error m_errorAt m_errorPosition m_nested m_codeCount)), ((ad 24), .inl (cI, 800, .inl m_buffer))] H := by rw [hH]; exact hP
  suffices hgo : W p l e ({ frames := 5, cells := 0, slots := 0, locals := 108 }) s m ([.ref (ad 0), .ref (adK v1)] : List Value).toArray below meth c H locs 0 0 (MQ below (gQ dC dI (some (.int (bI r9))) A [(ad 0, .inr (10, oM ad m_undoCount m_thrown m_hasSnapshot a_m_fam m_rows m_lineLength m_formattedLength m_bufferLength m_limit m_next_9 m_beginsAt_9 m_token_9 m_error m_errorAt m_errorPosition m_nested m_codeCount)), ((ad 24), .inl (cI, 800, .inl m_buffer))]) ([.ref (ad 0), .ref (adK v1)] : List Value).toArray s 0 0 A) (F0 m 0 ls []) by rw [hH, hlc] at hgo; exact hgo
  rw [p10_accept] at hf
  refine lv_aload_n hx hb dX10_accept_0 rfl (lv_at hl 0 rfl) ?_
  refine lv_aload_n hx hb dX10_accept_1 rfl (lv_at hl 1 rfl) ?_
  obtain ⟨r2, h9, hf⟩ := ob_s hf
  refine gcVH (index := 411) S hE hG (c_X10_isWord ad a_m_fam m_undoCount m_thrown m_hasSnapshot m_rows m_lineLength m_formattedLength m_bufferLength m_limit m_next m_beginsAt m_token m_error m_errorAt m_errorPosition m_nested m_codeCount m_buffer v1 hv1 r2 h9) mX10_isWord tw1958 ⟨Nat.le_of_ble_eq_true rfl, Nat.le_of_ble_eq_true rfl⟩ hP hD hS hA ⟨Nat.zero_le _, Nat.zero_le _⟩ 0 10 rfl rfl rfl (wr := []) [0, 1] [] rfl rfl rfl rfl (by decide) (As := [.ref (adK v1)]) (rest := []) rfl hl.1 rfl (Nat.le_of_ble_eq_true rfl) dX10_accept_2 (fun H locs hP hD hS => ?_)
  refine W.eq (g2 := F0 m 5 ls [.int (bI r2)]) rfl ?_
  have hP : va_P (dC, dI) vwCl [(ad 0, .inr (10, oM ad m_undoCount m_thrown m_hasSnapshot a_m_fam m_rows m_lineLength m_formattedLength m_bufferLength m_limit m_next m_beginsAt m_token m_error m_errorAt m_errorPosition m_nested m_codeCount)), ((ad 24), .inl (cI, 800, .inl m_buffer))] H := hP
  have hD : va_D A [(ad 0, .inr (10, oM ad m_undoCount m_thrown m_hasSnapshot a_m_fam m_rows m_lineLength m_formattedLength m_bufferLength m_limit m_next m_beginsAt m_token m_error m_errorAt m_errorPosition m_nested m_codeCount)), ((ad 24), .inl (cI, 800, .inl m_buffer))] := hD
  refine lv_istore_n (lv' := [(2, .int (bI r2)), (0, .ref (ad 0)), (1, .ref (adK v1))]) hx hb dX10_accept_5 rfl hl (by decide) rfl (fun ls hl => ?_)
  refine lv_iload_n hx hb dX10_accept_6 rfl (lv_at hl 0 rfl) ?_
  refine lv_if_eq (tgt := 14) hx hb dX10_accept_7 (by decide) (fun h9 => ?_) (fun h9 => ?_)
  · have hf := ctf (bI_0 h9) hf
    refine lv_iload_n hx hb dX10_accept_14 rfl (lv_at hl 0 rfl) ?_
    cases hf
    exact g_zret S hr (nar_bI r2) hlocks hP hD hS dX10_accept_15
  · have hf := ctt (bI_1 h9) hf
    refine lv_aload_n hx hb dX10_accept_10 rfl (lv_at hl 1 rfl) ?_
    obtain ⟨⟨m_beginsAt_11, m_next_11, m_token_11⟩, h9, hf⟩ := ob_s hf
    have hf := uc3_e hf
    refine gcV (index := 395) S hE (c_X10_scan ad a_m_fam m_undoCount m_thrown m_hasSnapshot m_rows m_lineLength m_formattedLength m_bufferLength m_limit m_next m_beginsAt m_token m_error m_errorAt m_errorPosition m_nested m_codeCount m_buffer m_beginsAt_11 m_next_11 m_token_11 h9) mX10_scan tw1938 ⟨Nat.le_of_ble_eq_true rfl, Nat.le_of_ble_eq_true rfl⟩ hP hD hS hA ⟨Nat.zero_le _, Nat.zero_le _⟩ 0 10 rfl rfl rfl (wr := []) [0, 1] [] rfl rfl rfl rfl (by decide) (As := []) (rest := []) rfl hl.1 rfl (Nat.le_of_ble_eq_true rfl) dX10_accept_11 (fun H locs hP hD hS => ?_)
    refine W.eq (g2 := F0 m 14 ls []) rfl ?_
    have hP : va_P (dC, dI) vwCl [(ad 0, .inr (10, oM ad m_undoCount m_thrown m_hasSnapshot a_m_fam m_rows m_lineLength m_formattedLength m_bufferLength m_limit m_next_11 m_beginsAt_11 m_token_11 m_error m_errorAt m_errorPosition m_nested m_codeCount)), ((ad 24), .inl (cI, 800, .inl m_buffer))] H := hP
    have hD : va_D A [(ad 0, .inr (10, oM ad m_undoCount m_thrown m_hasSnapshot a_m_fam m_rows m_lineLength m_formattedLength m_bufferLength m_limit m_next_11 m_beginsAt_11 m_token_11 m_error m_errorAt m_errorPosition m_nested m_codeCount)), ((ad 24), .inl (cI, 800, .inl m_buffer))] := hD
    refine lv_iload_n hx hb dX10_accept_14 rfl (lv_at hl 0 rfl) ?_
    cases hf
    exact g_zret S hr (nar_bI r2) hlocks hP hD hS dX10_accept_15
def p10_expect (m_limit : Int32) (m_next : Int32) (m_beginsAt : Int32) (m_token : Int32) (m_error : Int32) (m_errorAt : Int32) (m_buffer : Nat → Int32) (v1 : Int32) : Option (Int32 × Int32 × Int32 × Int32 × Int32) := ob (p10_isSymbol m_beginsAt m_token m_error m_buffer v1) (fun r3 => lb (p10_check m_beginsAt m_error m_errorAt r3 (1 : Int32)) (uc2 fun m_error_7 m_errorAt_7 => ob (p10_advance m_limit m_next m_beginsAt m_token m_error_7 m_buffer) (uc3 fun m_beginsAt_11 m_next_11 m_token_11 => some (m_beginsAt_11, m_error_7, m_errorAt_7, m_next_11, m_token_11))))
set_option maxHeartbeats 4000000 in
set_option maxRecDepth 100000 in
theorem c_X10_expect (ad : Nat → Nat) (a_m_fam : Nat) (m_undoCount : Int32) (m_thrown : Int32) (m_hasSnapshot : Bool) (m_rows : Int32) (m_lineLength : Int32) (m_formattedLength : Int32) (m_bufferLength : Int32) (m_limit : Int32) (m_next : Int32) (m_beginsAt : Int32) (m_token : Int32) (m_error : Int32) (m_errorAt : Int32) (m_errorPosition : Int32) (m_nested : Int32) (m_codeCount : Int32) (m_buffer : Nat → Int32) (v1 : Int32) (m_beginsAt_9 : Int32) (m_error_9 : Int32) (m_errorAt_9 : Int32) (m_next_9 : Int32) (m_token_9 : Int32) (hf : p10_expect m_limit m_next m_beginsAt m_token m_error m_errorAt m_buffer v1 = some (m_beginsAt_9, m_error_9, m_errorAt_9, m_next_9, m_token_9)) : gM l dC dI cI cJ cZ yX10_expect cX10_expect 2 none (4) (82) [.ref (ad 0), .int v1] [(ad 0, .inr (10, oM ad m_undoCount m_thrown m_hasSnapshot a_m_fam m_rows m_lineLength m_formattedLength m_bufferLength m_limit m_next m_beginsAt m_token m_error m_errorAt m_errorPosition m_nested m_codeCount)), ((ad 24), .inl (cI, 800, .inl m_buffer))] [(ad 0, .inr (10, oM ad m_undoCount m_thrown m_hasSnapshot a_m_fam m_rows m_lineLength m_formattedLength m_bufferLength m_limit m_next_9 m_beginsAt_9 m_token_9 m_error_9 m_errorAt_9 m_errorPosition m_nested m_codeCount)), ((ad 24), .inl (cI, 800, .inl m_buffer))] none := by
  refine g_start (own := RX10) (by decide +kernel) rfl (Nat.le_of_ble_eq_true rfl) ?_
  intro p e s m below meth c A ls S hr hlocks hE hP hD hS hA hl hin
  have hx := S.1
  have hb := S.2.1
  have hml := S.2.2.1
  have hown := S.2.2.2.1
  have htg : ∀ z ∈ gw, z.before ([.ref (ad 0), .int v1] : List Value).toArray s = true := fun w h => S.2.2.2.2 w (List.mem_cons_of_mem _ h)
  have hl : lv_has ls 2 [(0, .ref (ad 0)), (1, .int v1)] := hl
  have hS0 := hS
  obtain ⟨H, hH⟩ : ∃ H, H = s.heap := ⟨_, rfl⟩
  obtain ⟨locs, hlc⟩ : ∃ locs : List Loc, locs = [] := ⟨_, rfl⟩
  have hS : va_S A s.heap H locs := by rw [hH, hlc]; exact hS0
  have hP : va_P (dC, dI) vwCl [(ad 0, .inr (10, oM ad m_undoCount m_thrown m_hasSnapshot a_m_fam m_rows m_lineLength m_formattedLength m_bufferLength m_limit m_next m_beginsAt m_token m_error m_errorAt m_errorPosition m_nested m_codeCount)), ((ad 24), .inl (cI, 800, .inl m_buffer))] H := by rw [hH]; exact hP
  suffices hgo : W p l e ({ frames := 4, cells := 0, slots := 0, locals := 82 }) s m ([.ref (ad 0), .int v1] : List Value).toArray below meth c H locs 0 0 (MQ below (gQ dC dI none A [(ad 0, .inr (10, oM ad m_undoCount m_thrown m_hasSnapshot a_m_fam m_rows m_lineLength m_formattedLength m_bufferLength m_limit m_next_9 m_beginsAt_9 m_token_9 m_error_9 m_errorAt_9 m_errorPosition m_nested m_codeCount)), ((ad 24), .inl (cI, 800, .inl m_buffer))]) ([.ref (ad 0), .int v1] : List Value).toArray s 0 0 A) (F0 m 0 ls []) by rw [hH, hlc] at hgo; exact hgo
  rw [p10_expect] at hf
  refine lv_aload_n hx hb dX10_expect_0 rfl (lv_at hl 0 rfl) ?_
  refine lv_aload_n hx hb dX10_expect_1 rfl (lv_at hl 0 rfl) ?_
  refine lv_iload_n hx hb dX10_expect_2 rfl (lv_at hl 1 rfl) ?_
  obtain ⟨r3, h9, hf⟩ := ob_s hf
  refine gcV (index := 422) S hE (c_X10_isSymbol ad a_m_fam m_undoCount m_thrown m_hasSnapshot m_rows m_lineLength m_formattedLength m_bufferLength m_limit m_next m_beginsAt m_token m_error m_errorAt m_errorPosition m_nested m_codeCount m_buffer v1 r3 h9) mX10_isSymbol tw2016 ⟨Nat.le_of_ble_eq_true rfl, Nat.le_of_ble_eq_true rfl⟩ hP hD hS hA ⟨Nat.zero_le _, Nat.zero_le _⟩ 0 10 rfl rfl rfl (wr := []) [0, 1] [] rfl rfl rfl rfl (by decide) (As := [.int v1]) (rest := [.ref (ad 0)]) rfl hl.1 rfl (Nat.le_of_ble_eq_true rfl) dX10_expect_3 (fun H locs hP hD hS => ?_)
  refine W.eq (g2 := F0 m 6 ls [.int (bI r3), .ref (ad 0)]) rfl ?_
  have hP : va_P (dC, dI) vwCl [(ad 0, .inr (10, oM ad m_undoCount m_thrown m_hasSnapshot a_m_fam m_rows m_lineLength m_formattedLength m_bufferLength m_limit m_next m_beginsAt m_token m_error m_errorAt m_errorPosition m_nested m_codeCount)), ((ad 24), .inl (cI, 800, .inl m_buffer))] H := hP
  have hD : va_D A [(ad 0, .inr (10, oM ad m_undoCount m_thrown m_hasSnapshot a_m_fam m_rows m_lineLength m_formattedLength m_bufferLength m_limit m_next m_beginsAt m_token m_error m_errorAt m_errorPosition m_nested m_codeCount)), ((ad 24), .inl (cI, 800, .inl m_buffer))] := hD
  refine lv_iconst (v := 1) hx hb dX10_expect_6 (by decide) ?_
  obtain ⟨m_error_7, m_errorAt_7, h9⟩ : ∃ m_error_7 m_errorAt_7, p10_check m_beginsAt m_error m_errorAt r3 (1 : Int32) = (m_error_7, m_errorAt_7) := ⟨_, _, rfl⟩
  have hf := uc2_e (lb_e h9.symm hf)
  refine gcV (index := 415) S hE (c_X10_check ad a_m_fam m_undoCount m_thrown m_hasSnapshot m_rows m_lineLength m_formattedLength m_bufferLength m_limit m_next m_beginsAt m_token m_error m_errorAt m_errorPosition m_nested m_codeCount r3 (1 : Int32) m_error_7 m_errorAt_7 h9) mX10_check tw1968 ⟨Nat.le_of_ble_eq_true rfl, Nat.le_of_ble_eq_true rfl⟩ hP hD hS hA ⟨Nat.zero_le _, Nat.zero_le _⟩ 0 10 rfl rfl rfl (wr := [((ad 24), .inl (cI, 800, .inl m_buffer))]) [0] [1] rfl rfl rfl rfl (by decide) (As := [.int (bI r3), .int (1 : Int32)]) (rest := []) rfl hl.1 rfl (Nat.le_of_ble_eq_true rfl) dX10_expect_7 (fun H locs hP hD hS => ?_)
  refine W.eq (g2 := F0 m 10 ls []) rfl ?_
  have hP : va_P (dC, dI) vwCl [((ad 24), .inl (cI, 800, .inl m_buffer)), (ad 0, .inr (10, oM ad m_undoCount m_thrown m_hasSnapshot a_m_fam m_rows m_lineLength m_formattedLength m_bufferLength m_limit m_next m_beginsAt m_token m_error_7 m_errorAt_7 m_errorPosition m_nested m_codeCount))] H := hP
  have hD : va_D A [((ad 24), .inl (cI, 800, .inl m_buffer)), (ad 0, .inr (10, oM ad m_undoCount m_thrown m_hasSnapshot a_m_fam m_rows m_lineLength m_formattedLength m_bufferLength m_limit m_next m_beginsAt m_token m_error_7 m_errorAt_7 m_errorPosition m_nested m_codeCount))] := hD
  refine lv_aload_n hx hb dX10_expect_10 rfl (lv_at hl 0 rfl) ?_
  obtain ⟨⟨m_beginsAt_11, m_next_11, m_token_11⟩, h9, hf⟩ := ob_s hf
  have hf := uc3_e hf
  refine gcV (index := 419) S hE (c_X10_advance ad a_m_fam m_undoCount m_thrown m_hasSnapshot m_rows m_lineLength m_formattedLength m_bufferLength m_limit m_next m_beginsAt m_token m_error_7 m_errorAt_7 m_errorPosition m_nested m_codeCount m_buffer m_beginsAt_11 m_next_11 m_token_11 h9) mX10_advance tw1976 ⟨Nat.le_of_ble_eq_true rfl, Nat.le_of_ble_eq_true rfl⟩ hP hD hS hA ⟨Nat.zero_le _, Nat.zero_le _⟩ 1 10 rfl rfl rfl (wr := []) [1, 0] [] rfl rfl rfl rfl (by decide) (As := []) (rest := []) rfl hl.1 rfl (Nat.le_of_ble_eq_true rfl) dX10_expect_11 (fun H locs hP hD hS => ?_)
  refine W.eq (g2 := F0 m 14 ls []) rfl ?_
  have hP : va_P (dC, dI) vwCl [(ad 0, .inr (10, oM ad m_undoCount m_thrown m_hasSnapshot a_m_fam m_rows m_lineLength m_formattedLength m_bufferLength m_limit m_next_11 m_beginsAt_11 m_token_11 m_error_7 m_errorAt_7 m_errorPosition m_nested m_codeCount)), ((ad 24), .inl (cI, 800, .inl m_buffer))] H := hP
  have hD : va_D A [(ad 0, .inr (10, oM ad m_undoCount m_thrown m_hasSnapshot a_m_fam m_rows m_lineLength m_formattedLength m_bufferLength m_limit m_next_11 m_beginsAt_11 m_token_11 m_error_7 m_errorAt_7 m_errorPosition m_nested m_codeCount)), ((ad 24), .inl (cI, 800, .inl m_buffer))] := hD
  cases hf
  exact g_vret S hr hlocks hP hD hS dX10_expect_14
def p10_value_J55 (v1_55 : Int32) : Option (Int32) := some v1_55
def p10_value_L7_B (m_buffer : Nat → Int32) (m_next : Int32) (m_token : Int32) (k7 : Int32 → Int32 → Option (Int32)) (v1_7 : Int32) (v2_7 : Int32) : Option (Int32) := (if m_next ≤ v2_7 then some v1_7 else (if m_token = (2 : Int32) then gd v2_7 800 (lb ((lmin (2000000000 : Int64) ((((10 : Int64) * v1_7.toInt64) + (m_buffer v2_7.toNatClampNeg).toInt64) - (48 : Int64))).toInt32) (fun t48 => lb (v2_7 + (1 : Int32)) (fun t49 => (k7 t48 t49)))) else some v1_7))
def p10_value_L7 (m_buffer : Nat → Int32) (m_next : Int32) (m_token : Int32) : Nat → Int32 → Int32 → Option (Int32)
  | 0, _, _ => none
  | n+1, v1_7, v2_7 => p10_value_L7_B m_buffer m_next m_token (p10_value_L7 m_buffer m_next m_token n) v1_7 v2_7
def p10_value (m_next : Int32) (m_beginsAt : Int32) (m_token : Int32) (m_buffer : Nat → Int32) : Option (Int32) := (ob (p10_value_L7 m_buffer m_next m_token FU (0 : Int32) m_beginsAt) (fun v1_x7 => p10_value_J55 v1_x7))
set_option maxHeartbeats 4000000 in
set_option maxRecDepth 100000 in
theorem c_X10_value (ad : Nat → Nat) (a_m_fam : Nat) (m_undoCount : Int32) (m_thrown : Int32) (m_hasSnapshot : Bool) (m_rows : Int32) (m_lineLength : Int32) (m_formattedLength : Int32) (m_bufferLength : Int32) (m_limit : Int32) (m_next : Int32) (m_beginsAt : Int32) (m_token : Int32) (m_error : Int32) (m_errorAt : Int32) (m_errorPosition : Int32) (m_nested : Int32) (m_codeCount : Int32) (m_buffer : Nat → Int32) (r9 : Int32) (hf : p10_value m_next m_beginsAt m_token m_buffer = some r9) : gM l dC dI cI cJ cZ yX10_value cX10_value 3 (some .int) (1) (25) [.ref (ad 0)] [(ad 0, .inr (10, oM ad m_undoCount m_thrown m_hasSnapshot a_m_fam m_rows m_lineLength m_formattedLength m_bufferLength m_limit m_next m_beginsAt m_token m_error m_errorAt m_errorPosition m_nested m_codeCount)), ((ad 24), .inl (cI, 800, .inl m_buffer))] [(ad 0, .inr (10, oM ad m_undoCount m_thrown m_hasSnapshot a_m_fam m_rows m_lineLength m_formattedLength m_bufferLength m_limit m_next m_beginsAt m_token m_error m_errorAt m_errorPosition m_nested m_codeCount)), ((ad 24), .inl (cI, 800, .inl m_buffer))] (some (.int r9)) := by
  refine g_start (own := RX10) (by decide +kernel) rfl (Nat.le_of_ble_eq_true rfl) ?_
  intro p e s m below meth c A ls S hr hlocks hE hP hD hS hA hl hin
  have hx := S.1
  have hb := S.2.1
  have hml := S.2.2.1
  have hown := S.2.2.2.1
  have htg : ∀ z ∈ gw, z.before ([.ref (ad 0)] : List Value).toArray s = true := fun w h => S.2.2.2.2 w (List.mem_cons_of_mem _ h)
  have hl : lv_has ls 3 [(0, .ref (ad 0))] := hl
  have hS0 := hS
  obtain ⟨H, hH⟩ : ∃ H, H = s.heap := ⟨_, rfl⟩
  obtain ⟨locs, hlc⟩ : ∃ locs : List Loc, locs = [] := ⟨_, rfl⟩
  have hS : va_S A s.heap H locs := by rw [hH, hlc]; exact hS0
  have hP : va_P (dC, dI) vwCl [(ad 0, .inr (10, oM ad m_undoCount m_thrown m_hasSnapshot a_m_fam m_rows m_lineLength m_formattedLength m_bufferLength m_limit m_next m_beginsAt m_token m_error m_errorAt m_errorPosition m_nested m_codeCount)), ((ad 24), .inl (cI, 800, .inl m_buffer))] H := by rw [hH]; exact hP
  suffices hgo : W p l e ({ frames := 1, cells := 0, slots := 0, locals := 25 }) s m ([.ref (ad 0)] : List Value).toArray below meth c H locs 0 0 (MQ below (gQ dC dI (some (.int r9)) A [(ad 0, .inr (10, oM ad m_undoCount m_thrown m_hasSnapshot a_m_fam m_rows m_lineLength m_formattedLength m_bufferLength m_limit m_next m_beginsAt m_token m_error m_errorAt m_errorPosition m_nested m_codeCount)), ((ad 24), .inl (cI, 800, .inl m_buffer))]) ([.ref (ad 0)] : List Value).toArray s 0 0 A) (F0 m 0 ls []) by rw [hH, hlc] at hgo; exact hgo
  rw [p10_value] at hf
  have J55 : ∀ (v1_55 : Int32) (H : Heap) (locs : List Loc) (ls : Array Slot), p10_value_J55 v1_55 = some r9 → va_P (dC, dI) vwCl [(ad 0, .inr (10, oM ad m_undoCount m_thrown m_hasSnapshot a_m_fam m_rows m_lineLength m_formattedLength m_bufferLength m_limit m_next m_beginsAt m_token m_error m_errorAt m_errorPosition m_nested m_codeCount)), ((ad 24), .inl (cI, 800, .inl m_buffer))] H → va_D A [(ad 0, .inr (10, oM ad m_undoCount m_thrown m_hasSnapshot a_m_fam m_rows m_lineLength m_formattedLength m_bufferLength m_limit m_next m_beginsAt m_token m_error m_errorAt m_errorPosition m_nested m_codeCount)), ((ad 24), .inl (cI, 800, .inl m_buffer))] → va_S A s.heap H locs → lv_has ls 3 [(1, .int v1_55)] → W p l e ({ frames := 1, cells := 0, slots := 0, locals := 25 }) s m ([.ref (ad 0)] : List Value).toArray below meth c H locs 0 0 (MQ below (gQ dC dI (some (.int r9)) A [(ad 0, .inr (10, oM ad m_undoCount m_thrown m_hasSnapshot a_m_fam m_rows m_lineLength m_formattedLength m_bufferLength m_limit m_next m_beginsAt m_token m_error m_errorAt m_errorPosition m_nested m_codeCount)), ((ad 24), .inl (cI, 800, .inl m_buffer))]) ([.ref (ad 0)] : List Value).toArray s 0 0 A) (F0 m 55 ls []) := by
    intro v1_55 H locs ls hf hP hD hS hl
    rw [p10_value_J55] at hf
    refine lv_iload_n hx hb dX10_value_55 rfl (lv_at hl 0 rfl) ?_
    cases hf
    exact g_iret S hr hlocks hP hD hS dX10_value_56
  refine lv_iconst (v := 0) hx hb dX10_value_0 (by decide) ?_
  refine lv_istore_n (lv' := [(1, .int (0 : Int32)), (0, .ref (ad 0))]) hx hb dX10_value_1 rfl hl (by decide) rfl (fun ls hl => ?_)
  refine lv_aload_n hx hb dX10_value_2 rfl (lv_at hl 1 rfl) ?_
  refine va_get (D := (dC, dI)) (ci := 10) (v := .int m_beginsAt) (C := RX10) (T := TX10) (N := 37) hx hb htg inX10 hown hE.1 hP 0 rfl rfl 27 (by decide) (htg _ tw1409) (fun _ h9 => h9) rfl dX10_value_3 ?_
  refine lv_istore_n (lv' := [(2, .int m_beginsAt), (1, .int (0 : Int32)), (0, .ref (ad 0))]) hx hb dX10_value_6 rfl hl (by decide) rfl (fun ls hl => ?_)
  have K7 : ∀ (n7 : Nat) (v1_7 : Int32) (v2_7 : Int32) (ex7 : Int32) (H : Heap) (locs : List Loc) (ls : Array Slot), p10_value_L7 m_buffer m_next m_token n7 v1_7 v2_7 = some ex7 → (fun v1_x7 => p10_value_J55 v1_x7) ex7 = some r9 → va_P (dC, dI) vwCl [(ad 0, .inr (10, oM ad m_undoCount m_thrown m_hasSnapshot a_m_fam m_rows m_lineLength m_formattedLength m_bufferLength m_limit m_next m_beginsAt m_token m_error m_errorAt m_errorPosition m_nested m_codeCount)), ((ad 24), .inl (cI, 800, .inl m_buffer))] H → va_D A [(ad 0, .inr (10, oM ad m_undoCount m_thrown m_hasSnapshot a_m_fam m_rows m_lineLength m_formattedLength m_bufferLength m_limit m_next m_beginsAt m_token m_error m_errorAt m_errorPosition m_nested m_codeCount)), ((ad 24), .inl (cI, 800, .inl m_buffer))] → va_S A s.heap H locs → lv_has ls 3 [(0, .ref (ad 0)), (1, .int v1_7), (2, .int v2_7)] → W p l e ({ frames := 1, cells := 0, slots := 0, locals := 25 }) s m ([.ref (ad 0)] : List Value).toArray below meth c H locs 0 0 (MQ below (gQ dC dI (some (.int r9)) A [(ad 0, .inr (10, oM ad m_undoCount m_thrown m_hasSnapshot a_m_fam m_rows m_lineLength m_formattedLength m_bufferLength m_limit m_next m_beginsAt m_token m_error m_errorAt m_errorPosition m_nested m_codeCount)), ((ad 24), .inl (cI, 800, .inl m_buffer))]) ([.ref (ad 0)] : List Value).toArray s 0 0 A) (F0 m 7 ls []) := by
    intro n7
    induction n7 with
    | zero => intro v1_7 v2_7 ex7 H locs ls hf; rw [p10_value_L7] at hf; cases hf
    | succ n7 ih7 =>
      intro v1_7 v2_7 ex7 H locs ls hf hk7 hP hD hS hl
      rw [p10_value_L7, p10_value_L7_B] at hf
      refine lv_iload_n hx hb dX10_value_7 rfl (lv_at hl 2 rfl) ?_
      refine lv_aload_n hx hb dX10_value_8 rfl (lv_at hl 0 rfl) ?_
      refine va_get (D := (dC, dI)) (ci := 10) (v := .int m_next) (C := RX10) (T := TX10) (N := 37) hx hb htg inX10 hown hE.1 hP 0 rfl rfl 26 (by decide) (htg _ tw1408) (fun _ h9 => h9) rfl dX10_value_9 ?_
      refine lv_icmp_ge (tgt := 55) hx hb dX10_value_12 (by decide) (fun h9 => ?_) (fun h9 => ?_)
      · have hf := itt h9 hf
        cases hf
        have hf := hk7
        exact J55 v1_7 H locs ls hf hP hD hS (lv_sub hl [1] rfl)
      · have hf := itf h9 hf
        refine lv_aload_n hx hb dX10_value_15 rfl (lv_at hl 0 rfl) ?_
        refine va_get (D := (dC, dI)) (ci := 10) (v := .int m_token) (C := RX10) (T := TX10) (N := 37) hx hb htg inX10 hown hE.1 hP 0 rfl rfl 28 (by decide) (htg _ tw1410) (fun _ h9 => h9) rfl dX10_value_16 ?_
        refine lv_iconst (v := 2) hx hb dX10_value_19 (by decide) ?_
        refine lv_icmp_ne (tgt := 55) hx hb dX10_value_20 (by decide) (fun h9 => ?_) (fun h9 => ?_)
        · have hf := itf h9 hf
          cases hf
          have hf := hk7
          exact J55 v1_7 H locs ls hf hP hD hS (lv_sub hl [1] rfl)
        · have hf := itt h9 hf
          refine lv_ldc2 (own := RX10) (v := 2000000000) hx hb hown (htg _ tw1997) dX10_value_23 ?_
          refine lv_ldc2 (own := RX10) (v := 10) hx hb hown (htg _ tw1809) dX10_value_26 ?_
          refine lv_iload_n hx hb dX10_value_29 rfl (lv_at hl 1 rfl) ?_
          refine lv_i2l hx hb dX10_value_30 rfl ?_
          refine lv_lmul hx hb dX10_value_31 ?_
          refine lv_aload_n hx hb dX10_value_32 rfl (lv_at hl 0 rfl) ?_
          refine va_get (D := (dC, dI)) (ci := 10) (v := .ref (ad 24)) (C := RX10) (T := TX10) (N := 37) hx hb htg inX10 hown hE.1 hP 0 rfl rfl 23 (by decide) (htg _ tw1405) (fun _ h9 => h9) rfl dX10_value_33 ?_
          refine lv_iload_n hx hb dX10_value_36 rfl (lv_at hl 2 rfl) ?_
          obtain ⟨h9, hf⟩ := gd_s hf
          refine va_iald hx hb hE.1 hP 1 0 rfl rfl h9 dX10_value_37 ?_
          refine lv_i2l hx hb dX10_value_38 rfl ?_
          refine lv_ladd hx hb dX10_value_39 ?_
          refine lv_ldc2 (own := RX10) (v := 48) hx hb hown (htg _ tw1998) dX10_value_40 ?_
          refine lv_lsub hx hb dX10_value_43 ?_
          refine va_mmin_long hx hb (hml.trans hl.1.symm) hown (htg _ tw1811) (htg _ tw1812) (htg _ tw16) (htg _ tw1813) (Nat.le_of_ble_eq_true rfl) (Nat.le_of_ble_eq_true rfl) (Nat.zero_le _) (Nat.zero_le _) dX10_value_44 ?_
          refine W.eq (g2 := F0 m 47 ls [.long (lmin (2000000000 : Int64) ((((10 : Int64) * v1_7.toInt64) + (m_buffer v2_7.toNatClampNeg).toInt64) - (48 : Int64)))]) rfl ?_
          refine lv_l2i hx hb dX10_value_47 rfl ?_
          refine lv_topi (fun t48 h9 => ?_)
          have hf := lb_e h9 hf
          refine lv_istore_n (lv' := [(1, .int t48), (0, .ref (ad 0)), (2, .int v2_7)]) hx hb dX10_value_48 rfl hl (by decide) rfl (fun ls hl => ?_)
          obtain ⟨t49, h9⟩ : ∃ z : Int32, z = (v2_7 + (1 : Int32)) := ⟨_, rfl⟩
          have hf := lb_e h9 hf
          refine lv_iinc (v := t49) (lv' := [(2, .int t49), (1, .int t48), (0, .ref (ad 0))]) hx hb dX10_value_49 hl (k := 2) rfl (by rw [h9]; rfl) (by decide) rfl (fun ls hl => ?_)
          refine lv_goto (tgt := 7) hx hb dX10_value_52 (by decide) ?_
          exact ih7 t48 t49 ex7 H locs ls hf hk7 hP hD hS (lv_sub hl [2, 1, 0] rfl)
  obtain ⟨ex, h9, hf⟩ := ob_s hf
  exact K7 FU (0 : Int32) m_beginsAt ex H locs ls h9 hf hP hD hS (lv_sub hl [2, 1, 0] rfl)
def p10_readNumber_J59 (m_beginsAt : Int32) (m_buffer : Nat → Int32) (m_limit : Int32) (m_next : Int32) (m_token : Int32) (v1 : Int32) (v3_59 : Int32) (m_error_59 : Int32) (m_errorAt_59 : Int32) : Option (Int32 × Int32 × Int32 × Int32 × Int32 × Int32) := ob (p10_advance m_limit m_next m_beginsAt m_token m_error_59 m_buffer) (uc3 fun m_beginsAt_60 m_next_60 m_token_60 => (if m_error_59 = (0 : Int32) then some (v3_59, m_beginsAt_60, m_error_59, m_errorAt_59, m_next_60, m_token_60) else some (v1, m_beginsAt_60, m_error_59, m_errorAt_59, m_next_60, m_token_60)))
def p10_readNumber_J25 (m_beginsAt : Int32) (m_buffer : Nat → Int32) (m_limit : Int32) (m_next : Int32) (m_token : Int32) (v1 : Int32) (v2 : Int32) (m_error_25 : Int32) (m_errorAt_25 : Int32) : Option (Int32 × Int32 × Int32 × Int32 × Int32 × Int32) := ob (p10_value m_next m_beginsAt m_token m_buffer) (fun r26 => (if m_error_25 = (0 : Int32) then (cond ((p10_inRange r26.toInt64 v1.toInt64 v2.toInt64)) (lb (p10_check m_beginsAt m_error_25 m_errorAt_25 true (2 : Int32)) (uc2 fun m_error_56 m_errorAt_56 => (p10_readNumber_J59 m_beginsAt m_buffer m_limit m_next m_token v1 r26 m_error_56 m_errorAt_56))) (lb (p10_check m_beginsAt m_error_25 m_errorAt_25 false (2 : Int32)) (uc2 fun m_error_56 m_errorAt_56 => (p10_readNumber_J59 m_beginsAt m_buffer m_limit m_next m_token v1 r26 m_error_56 m_errorAt_56)))) else lb (p10_check m_beginsAt m_error_25 m_errorAt_25 true (2 : Int32)) (uc2 fun m_error_56 m_errorAt_56 => (p10_readNumber_J59 m_beginsAt m_buffer m_limit m_next m_token v1 r26 m_error_56 m_errorAt_56))))
def p10_readNumber (m_limit : Int32) (m_next : Int32) (m_beginsAt : Int32) (m_token : Int32) (m_error : Int32) (m_errorAt : Int32) (m_buffer : Nat → Int32) (v1 : Int32) (v2 : Int32) : Option (Int32 × Int32 × Int32 × Int32 × Int32 × Int32) := (if m_error = (0 : Int32) then (if m_token = (2 : Int32) then lb (p10_check m_beginsAt m_error m_errorAt true (1 : Int32)) (uc2 fun m_error_22 m_errorAt_22 => (p10_readNumber_J25 m_beginsAt m_buffer m_limit m_next m_token v1 v2 m_error_22 m_errorAt_22)) else lb (p10_check m_beginsAt m_error m_errorAt false (1 : Int32)) (uc2 fun m_error_22 m_errorAt_22 => (p10_readNumber_J25 m_beginsAt m_buffer m_limit m_next m_token v1 v2 m_error_22 m_errorAt_22))) else lb (p10_check m_beginsAt m_error m_errorAt true (1 : Int32)) (uc2 fun m_error_22 m_errorAt_22 => (p10_readNumber_J25 m_beginsAt m_buffer m_limit m_next m_token v1 v2 m_error_22 m_errorAt_22)))
set_option maxHeartbeats 4000000 in
set_option maxRecDepth 100000 in
theorem c_X10_readNumber (ad : Nat → Nat) (a_m_fam : Nat) (m_undoCount : Int32) (m_thrown : Int32) (m_hasSnapshot : Bool) (m_rows : Int32) (m_lineLength : Int32) (m_formattedLength : Int32) (m_bufferLength : Int32) (m_limit : Int32) (m_next : Int32) (m_beginsAt : Int32) (m_token : Int32) (m_error : Int32) (m_errorAt : Int32) (m_errorPosition : Int32) (m_nested : Int32) (m_codeCount : Int32) (m_buffer : Nat → Int32) (v1 : Int32) (v2 : Int32) (r9 : Int32) (m_beginsAt_9 : Int32) (m_error_9 : Int32) (m_errorAt_9 : Int32) (m_next_9 : Int32) (m_token_9 : Int32) (hf : p10_readNumber m_limit m_next m_beginsAt m_token m_error m_errorAt m_buffer v1 v2 = some (r9, m_beginsAt_9, m_error_9, m_errorAt_9, m_next_9, m_token_9)) : gM l dC dI cI cJ cZ yX10_readNumber cX10_readNumber 4 (some .int) (4) (82) [.ref (ad 0), .int v1, .int v2] [(ad 0, .inr (10, oM ad m_undoCount m_thrown m_hasSnapshot a_m_fam m_rows m_lineLength m_formattedLength m_bufferLength m_limit m_next m_beginsAt m_token m_error m_errorAt m_errorPosition m_nested m_codeCount)), ((ad 24), .inl (cI, 800, .inl m_buffer))] [(ad 0, .inr (10, oM ad m_undoCount m_thrown m_hasSnapshot a_m_fam m_rows m_lineLength m_formattedLength m_bufferLength m_limit m_next_9 m_beginsAt_9 m_token_9 m_error_9 m_errorAt_9 m_errorPosition m_nested m_codeCount)), ((ad 24), .inl (cI, 800, .inl m_buffer))] (some (.int r9)) := by
  refine g_start (own := RX10) (by decide +kernel) rfl (Nat.le_of_ble_eq_true rfl) ?_
  intro p e s m below meth c A ls S hr hlocks hE hP hD hS hA hl hin
  have hx := S.1
  have hb := S.2.1
  have hml := S.2.2.1
  have hown := S.2.2.2.1
  have htg : ∀ z ∈ gw, z.before ([.ref (ad 0), .int v1, .int v2] : List Value).toArray s = true := fun w h => S.2.2.2.2 w (List.mem_cons_of_mem _ h)
  have hl : lv_has ls 4 [(0, .ref (ad 0)), (1, .int v1), (2, .int v2)] := hl
  have hS0 := hS
  obtain ⟨H, hH⟩ : ∃ H, H = s.heap := ⟨_, rfl⟩
  obtain ⟨locs, hlc⟩ : ∃ locs : List Loc, locs = [] := ⟨_, rfl⟩
  have hS : va_S A s.heap H locs := by rw [hH, hlc]; exact hS0
  have hP : va_P (dC, dI) vwCl [(ad 0, .inr (10, oM ad m_undoCount m_thrown m_hasSnapshot a_m_fam m_rows m_lineLength m_formattedLength m_bufferLength m_limit m_next m_beginsAt m_token m_error m_errorAt m_errorPosition m_nested m_codeCount)), ((ad 24), .inl (cI, 800, .inl m_buffer))] H := by rw [hH]; exact hP
  suffices hgo : W p l e ({ frames := 4, cells := 0, slots := 0, locals := 82 }) s m ([.ref (ad 0), .int v1, .int v2] : List Value).toArray below meth c H locs 0 0 (MQ below (gQ dC dI (some (.int r9)) A [(ad 0, .inr (10, oM ad m_undoCount m_thrown m_hasSnapshot a_m_fam m_rows m_lineLength m_formattedLength m_bufferLength m_limit m_next_9 m_beginsAt_9 m_token_9 m_error_9 m_errorAt_9 m_errorPosition m_nested m_codeCount)), ((ad 24), .inl (cI, 800, .inl m_buffer))]) ([.ref (ad 0), .int v1, .int v2] : List Value).toArray s 0 0 A) (F0 m 0 ls []) by rw [hH, hlc] at hgo; exact hgo
  rw [p10_readNumber] at hf
  have J59 : ∀ (v3_59 : Int32) (m_error_59 : Int32) (m_errorAt_59 : Int32) (H : Heap) (locs : List Loc) (ls : Array Slot), p10_readNumber_J59 m_beginsAt m_buffer m_limit m_next m_token v1 v3_59 m_error_59 m_errorAt_59 = some (r9, m_beginsAt_9, m_error_9, m_errorAt_9, m_next_9, m_token_9) → va_P (dC, dI) vwCl [(ad 0, .inr (10, oM ad m_undoCount m_thrown m_hasSnapshot a_m_fam m_rows m_lineLength m_formattedLength m_bufferLength m_limit m_next m_beginsAt m_token m_error_59 m_errorAt_59 m_errorPosition m_nested m_codeCount)), ((ad 24), .inl (cI, 800, .inl m_buffer))] H → va_D A [(ad 0, .inr (10, oM ad m_undoCount m_thrown m_hasSnapshot a_m_fam m_rows m_lineLength m_formattedLength m_bufferLength m_limit m_next m_beginsAt m_token m_error_59 m_errorAt_59 m_errorPosition m_nested m_codeCount)), ((ad 24), .inl (cI, 800, .inl m_buffer))] → va_S A s.heap H locs → lv_has ls 4 [(0, .ref (ad 0)), (1, .int v1), (3, .int v3_59)] → W p l e ({ frames := 4, cells := 0, slots := 0, locals := 82 }) s m ([.ref (ad 0), .int v1, .int v2] : List Value).toArray below meth c H locs 0 0 (MQ below (gQ dC dI (some (.int r9)) A [(ad 0, .inr (10, oM ad m_undoCount m_thrown m_hasSnapshot a_m_fam m_rows m_lineLength m_formattedLength m_bufferLength m_limit m_next_9 m_beginsAt_9 m_token_9 m_error_9 m_errorAt_9 m_errorPosition m_nested m_codeCount)), ((ad 24), .inl (cI, 800, .inl m_buffer))]) ([.ref (ad 0), .int v1, .int v2] : List Value).toArray s 0 0 A) (F0 m 59 ls []) := by
    intro v3_59 m_error_59 m_errorAt_59 H locs ls hf hP hD hS hl
    rw [p10_readNumber_J59] at hf
    refine lv_aload_n hx hb dX10_readNumber_59 rfl (lv_at hl 0 rfl) ?_
    obtain ⟨⟨m_beginsAt_60, m_next_60, m_token_60⟩, h9, hf⟩ := ob_s hf
    have hf := uc3_e hf
    refine gcV (index := 419) S hE (c_X10_advance ad a_m_fam m_undoCount m_thrown m_hasSnapshot m_rows m_lineLength m_formattedLength m_bufferLength m_limit m_next m_beginsAt m_token m_error_59 m_errorAt_59 m_errorPosition m_nested m_codeCount m_buffer m_beginsAt_60 m_next_60 m_token_60 h9) mX10_advance tw1976 ⟨Nat.le_of_ble_eq_true rfl, Nat.le_of_ble_eq_true rfl⟩ hP hD hS hA ⟨Nat.zero_le _, Nat.zero_le _⟩ 0 10 rfl rfl rfl (wr := []) [0, 1] [] rfl rfl rfl rfl (by decide) (As := []) (rest := []) rfl hl.1 rfl (Nat.le_of_ble_eq_true rfl) dX10_readNumber_60 (fun H locs hP hD hS => ?_)
    refine W.eq (g2 := F0 m 63 ls []) rfl ?_
    have hP : va_P (dC, dI) vwCl [(ad 0, .inr (10, oM ad m_undoCount m_thrown m_hasSnapshot a_m_fam m_rows m_lineLength m_formattedLength m_bufferLength m_limit m_next_60 m_beginsAt_60 m_token_60 m_error_59 m_errorAt_59 m_errorPosition m_nested m_codeCount)), ((ad 24), .inl (cI, 800, .inl m_buffer))] H := hP
    have hD : va_D A [(ad 0, .inr (10, oM ad m_undoCount m_thrown m_hasSnapshot a_m_fam m_rows m_lineLength m_formattedLength m_bufferLength m_limit m_next_60 m_beginsAt_60 m_token_60 m_error_59 m_errorAt_59 m_errorPosition m_nested m_codeCount)), ((ad 24), .inl (cI, 800, .inl m_buffer))] := hD
    refine lv_aload_n hx hb dX10_readNumber_63 rfl (lv_at hl 0 rfl) ?_
    refine va_get (D := (dC, dI)) (ci := 10) (v := .int m_error_59) (C := RX10) (T := TX10) (N := 37) hx hb htg inX10 hown hE.1 hP 0 rfl rfl 29 (by decide) (htg _ tw1411) (fun _ h9 => h9) rfl dX10_readNumber_64 ?_
    refine lv_if_ne (tgt := 74) hx hb dX10_readNumber_67 (by decide) (fun h9 => ?_) (fun h9 => ?_)
    · have hf := itf h9 hf
      refine lv_iload_n hx hb dX10_readNumber_74 rfl (lv_at hl 1 rfl) ?_
      cases hf
      exact g_iret S hr hlocks hP hD hS dX10_readNumber_75
    · have hf := itt h9 hf
      refine lv_iload_n hx hb dX10_readNumber_70 rfl (lv_at hl 2 rfl) ?_
      refine lv_goto (tgt := 75) hx hb dX10_readNumber_71 (by decide) ?_
      cases hf
      exact g_iret S hr hlocks hP hD hS dX10_readNumber_75
  have J25 : ∀ (m_error_25 : Int32) (m_errorAt_25 : Int32) (H : Heap) (locs : List Loc) (ls : Array Slot), p10_readNumber_J25 m_beginsAt m_buffer m_limit m_next m_token v1 v2 m_error_25 m_errorAt_25 = some (r9, m_beginsAt_9, m_error_9, m_errorAt_9, m_next_9, m_token_9) → va_P (dC, dI) vwCl [(ad 0, .inr (10, oM ad m_undoCount m_thrown m_hasSnapshot a_m_fam m_rows m_lineLength m_formattedLength m_bufferLength m_limit m_next m_beginsAt m_token m_error_25 m_errorAt_25 m_errorPosition m_nested m_codeCount)), ((ad 24), .inl (cI, 800, .inl m_buffer))] H → va_D A [(ad 0, .inr (10, oM ad m_undoCount m_thrown m_hasSnapshot a_m_fam m_rows m_lineLength m_formattedLength m_bufferLength m_limit m_next m_beginsAt m_token m_error_25 m_errorAt_25 m_errorPosition m_nested m_codeCount)), ((ad 24), .inl (cI, 800, .inl m_buffer))] → va_S A s.heap H locs → lv_has ls 4 [(0, .ref (ad 0)), (1, .int v1), (2, .int v2)] → W p l e ({ frames := 4, cells := 0, slots := 0, locals := 82 }) s m ([.ref (ad 0), .int v1, .int v2] : List Value).toArray below meth c H locs 0 0 (MQ below (gQ dC dI (some (.int r9)) A [(ad 0, .inr (10, oM ad m_undoCount m_thrown m_hasSnapshot a_m_fam m_rows m_lineLength m_formattedLength m_bufferLength m_limit m_next_9 m_beginsAt_9 m_token_9 m_error_9 m_errorAt_9 m_errorPosition m_nested m_codeCount)), ((ad 24), .inl (cI, 800, .inl m_buffer))]) ([.ref (ad 0), .int v1, .int v2] : List Value).toArray s 0 0 A) (F0 m 25 ls []) := by
    intro m_error_25 m_errorAt_25 H locs ls hf hP hD hS hl
    rw [p10_readNumber_J25] at hf
    refine lv_aload_n hx hb dX10_readNumber_25 rfl (lv_at hl 0 rfl) ?_
    obtain ⟨r26, h9, hf⟩ := ob_s hf
    refine gcV (index := 429) S hE (c_X10_value ad a_m_fam m_undoCount m_thrown m_hasSnapshot m_rows m_lineLength m_formattedLength m_bufferLength m_limit m_next m_beginsAt m_token m_error_25 m_errorAt_25 m_errorPosition m_nested m_codeCount m_buffer r26 h9) mX10_value tw1993 ⟨Nat.le_of_ble_eq_true rfl, Nat.le_of_ble_eq_true rfl⟩ hP hD hS hA ⟨Nat.zero_le _, Nat.zero_le _⟩ 0 10 rfl rfl rfl (wr := []) [0, 1] [] rfl rfl rfl rfl (by decide) (As := []) (rest := []) rfl hl.1 rfl (Nat.le_of_ble_eq_true rfl) dX10_readNumber_26 (fun H locs hP hD hS => ?_)
    refine W.eq (g2 := F0 m 29 ls [.int r26]) rfl ?_
    have hP : va_P (dC, dI) vwCl [(ad 0, .inr (10, oM ad m_undoCount m_thrown m_hasSnapshot a_m_fam m_rows m_lineLength m_formattedLength m_bufferLength m_limit m_next m_beginsAt m_token m_error_25 m_errorAt_25 m_errorPosition m_nested m_codeCount)), ((ad 24), .inl (cI, 800, .inl m_buffer))] H := hP
    have hD : va_D A [(ad 0, .inr (10, oM ad m_undoCount m_thrown m_hasSnapshot a_m_fam m_rows m_lineLength m_formattedLength m_bufferLength m_limit m_next m_beginsAt m_token m_error_25 m_errorAt_25 m_errorPosition m_nested m_codeCount)), ((ad 24), .inl (cI, 800, .inl m_buffer))] := hD
    refine lv_istore_n (lv' := [(3, .int r26), (0, .ref (ad 0)), (1, .int v1), (2, .int v2)]) hx hb dX10_readNumber_29 rfl hl (by decide) rfl (fun ls hl => ?_)
    refine lv_aload_n hx hb dX10_readNumber_30 rfl (lv_at hl 1 rfl) ?_
    refine lv_aload_n hx hb dX10_readNumber_31 rfl (lv_at hl 1 rfl) ?_
    refine va_get (D := (dC, dI)) (ci := 10) (v := .int m_error_25) (C := RX10) (T := TX10) (N := 37) hx hb htg inX10 hown hE.1 hP 0 rfl rfl 29 (by decide) (htg _ tw1411) (fun _ h9 => h9) rfl dX10_readNumber_32 ?_
    refine lv_if_ne (tgt := 50) hx hb dX10_readNumber_35 (by decide) (fun h9 => ?_) (fun h9 => ?_)
    · have hf := itf h9 hf
      refine lv_iconst (v := 1) hx hb dX10_readNumber_50 (by decide) ?_
      refine lv_goto (tgt := 55) hx hb dX10_readNumber_51 (by decide) ?_
      refine lv_iconst (v := 2) hx hb dX10_readNumber_55 (by decide) ?_
      obtain ⟨m_error_56, m_errorAt_56, h9⟩ : ∃ m_error_56 m_errorAt_56, p10_check m_beginsAt m_error_25 m_errorAt_25 true (2 : Int32) = (m_error_56, m_errorAt_56) := ⟨_, _, rfl⟩
      have hf := uc2_e (lb_e h9.symm hf)
      refine gcV (index := 415) S hE (c_X10_check ad a_m_fam m_undoCount m_thrown m_hasSnapshot m_rows m_lineLength m_formattedLength m_bufferLength m_limit m_next m_beginsAt m_token m_error_25 m_errorAt_25 m_errorPosition m_nested m_codeCount true (2 : Int32) m_error_56 m_errorAt_56 h9) mX10_check tw1968 ⟨Nat.le_of_ble_eq_true rfl, Nat.le_of_ble_eq_true rfl⟩ hP hD hS hA ⟨Nat.zero_le _, Nat.zero_le _⟩ 0 10 rfl rfl rfl (wr := [((ad 24), .inl (cI, 800, .inl m_buffer))]) [0] [1] rfl rfl rfl rfl (by decide) (As := [.int (bI true), .int (2 : Int32)]) (rest := []) rfl hl.1 rfl (Nat.le_of_ble_eq_true rfl) dX10_readNumber_56 (fun H locs hP hD hS => ?_)
      refine W.eq (g2 := F0 m 59 ls []) rfl ?_
      have hP : va_P (dC, dI) vwCl [((ad 24), .inl (cI, 800, .inl m_buffer)), (ad 0, .inr (10, oM ad m_undoCount m_thrown m_hasSnapshot a_m_fam m_rows m_lineLength m_formattedLength m_bufferLength m_limit m_next m_beginsAt m_token m_error_56 m_errorAt_56 m_errorPosition m_nested m_codeCount))] H := hP
      have hD : va_D A [((ad 24), .inl (cI, 800, .inl m_buffer)), (ad 0, .inr (10, oM ad m_undoCount m_thrown m_hasSnapshot a_m_fam m_rows m_lineLength m_formattedLength m_bufferLength m_limit m_next m_beginsAt m_token m_error_56 m_errorAt_56 m_errorPosition m_nested m_codeCount))] := hD
      exact J59 r26 m_error_56 m_errorAt_56 H locs ls hf (hP.sub [1, 0] rfl) (hD.sub [1, 0] (by decide) rfl) hS (lv_sub hl [1, 2, 0] rfl)
    · have hf := itt h9 hf
      refine lv_iload_n hx hb dX10_readNumber_38 rfl (lv_at hl 0 rfl) ?_
      refine lv_i2l hx hb dX10_readNumber_39 rfl ?_
      refine lv_iload_n hx hb dX10_readNumber_40 rfl (lv_at hl 2 rfl) ?_
      refine lv_i2l hx hb dX10_readNumber_41 rfl ?_
      refine lv_iload_n hx hb dX10_readNumber_42 rfl (lv_at hl 3 rfl) ?_
      refine lv_i2l hx hb dX10_readNumber_43 rfl ?_
      refine gcS (index := 106) S hE (c_X10_inRange r26.toInt64 v1.toInt64 v2.toInt64 (p10_inRange r26.toInt64 v1.toInt64 v2.toInt64) rfl) mX10_inRange tw1580 ⟨Nat.le_of_ble_eq_true rfl, Nat.le_of_ble_eq_true rfl⟩ hP hD hS hA ⟨Nat.zero_le _, Nat.zero_le _⟩ (wr := [(ad 0, .inr (10, oM ad m_undoCount m_thrown m_hasSnapshot a_m_fam m_rows m_lineLength m_formattedLength m_bufferLength m_limit m_next m_beginsAt m_token m_error_25 m_errorAt_25 m_errorPosition m_nested m_codeCount)), ((ad 24), .inl (cI, 800, .inl m_buffer))]) [] [0, 1] rfl rfl rfl rfl (by decide) (As := [.long r26.toInt64, .long v1.toInt64, .long v2.toInt64]) (rest := [.ref (ad 0)]) rfl hl.1 rfl (Nat.le_of_ble_eq_true rfl) dX10_readNumber_44 (fun H locs hP hD hS => ?_)
      refine W.eq (g2 := F0 m 47 ls [.int (bI (p10_inRange r26.toInt64 v1.toInt64 v2.toInt64)), .ref (ad 0)]) rfl ?_
      have hP : va_P (dC, dI) vwCl [(ad 0, .inr (10, oM ad m_undoCount m_thrown m_hasSnapshot a_m_fam m_rows m_lineLength m_formattedLength m_bufferLength m_limit m_next m_beginsAt m_token m_error_25 m_errorAt_25 m_errorPosition m_nested m_codeCount)), ((ad 24), .inl (cI, 800, .inl m_buffer))] H := hP
      have hD : va_D A [(ad 0, .inr (10, oM ad m_undoCount m_thrown m_hasSnapshot a_m_fam m_rows m_lineLength m_formattedLength m_bufferLength m_limit m_next m_beginsAt m_token m_error_25 m_errorAt_25 m_errorPosition m_nested m_codeCount)), ((ad 24), .inl (cI, 800, .inl m_buffer))] := hD
      refine lv_if_eq (tgt := 54) hx hb dX10_readNumber_47 (by decide) (fun h9 => ?_) (fun h9 => ?_)
      · have hf := ctf (bI_0 h9) hf
        refine lv_iconst (v := 0) hx hb dX10_readNumber_54 (by decide) ?_
        refine lv_iconst (v := 2) hx hb dX10_readNumber_55 (by decide) ?_
        obtain ⟨m_error_56, m_errorAt_56, h9⟩ : ∃ m_error_56 m_errorAt_56, p10_check m_beginsAt m_error_25 m_errorAt_25 false (2 : Int32) = (m_error_56, m_errorAt_56) := ⟨_, _, rfl⟩
        have hf := uc2_e (lb_e h9.symm hf)
        refine gcV (index := 415) S hE (c_X10_check ad a_m_fam m_undoCount m_thrown m_hasSnapshot m_rows m_lineLength m_formattedLength m_bufferLength m_limit m_next m_beginsAt m_token m_error_25 m_errorAt_25 m_errorPosition m_nested m_codeCount false (2 : Int32) m_error_56 m_errorAt_56 h9) mX10_check tw1968 ⟨Nat.le_of_ble_eq_true rfl, Nat.le_of_ble_eq_true rfl⟩ hP hD hS hA ⟨Nat.zero_le _, Nat.zero_le _⟩ 0 10 rfl rfl rfl (wr := [((ad 24), .inl (cI, 800, .inl m_buffer))]) [0] [1] rfl rfl rfl rfl (by decide) (As := [.int (bI false), .int (2 : Int32)]) (rest := []) rfl hl.1 rfl (Nat.le_of_ble_eq_true rfl) dX10_readNumber_56 (fun H locs hP hD hS => ?_)
        refine W.eq (g2 := F0 m 59 ls []) rfl ?_
        have hP : va_P (dC, dI) vwCl [((ad 24), .inl (cI, 800, .inl m_buffer)), (ad 0, .inr (10, oM ad m_undoCount m_thrown m_hasSnapshot a_m_fam m_rows m_lineLength m_formattedLength m_bufferLength m_limit m_next m_beginsAt m_token m_error_56 m_errorAt_56 m_errorPosition m_nested m_codeCount))] H := hP
        have hD : va_D A [((ad 24), .inl (cI, 800, .inl m_buffer)), (ad 0, .inr (10, oM ad m_undoCount m_thrown m_hasSnapshot a_m_fam m_rows m_lineLength m_formattedLength m_bufferLength m_limit m_next m_beginsAt m_token m_error_56 m_errorAt_56 m_errorPosition m_nested m_codeCount))] := hD
        exact J59 r26 m_error_56 m_errorAt_56 H locs ls hf (hP.sub [1, 0] rfl) (hD.sub [1, 0] (by decide) rfl) hS (lv_sub hl [1, 2, 0] rfl)
      · have hf := ctt (bI_1 h9) hf
        refine lv_iconst (v := 1) hx hb dX10_readNumber_50 (by decide) ?_
        refine lv_goto (tgt := 55) hx hb dX10_readNumber_51 (by decide) ?_
        refine lv_iconst (v := 2) hx hb dX10_readNumber_55 (by decide) ?_
        obtain ⟨m_error_56, m_errorAt_56, h9⟩ : ∃ m_error_56 m_errorAt_56, p10_check m_beginsAt m_error_25 m_errorAt_25 true (2 : Int32) = (m_error_56, m_errorAt_56) := ⟨_, _, rfl⟩
        have hf := uc2_e (lb_e h9.symm hf)
        refine gcV (index := 415) S hE (c_X10_check ad a_m_fam m_undoCount m_thrown m_hasSnapshot m_rows m_lineLength m_formattedLength m_bufferLength m_limit m_next m_beginsAt m_token m_error_25 m_errorAt_25 m_errorPosition m_nested m_codeCount true (2 : Int32) m_error_56 m_errorAt_56 h9) mX10_check tw1968 ⟨Nat.le_of_ble_eq_true rfl, Nat.le_of_ble_eq_true rfl⟩ hP hD hS hA ⟨Nat.zero_le _, Nat.zero_le _⟩ 0 10 rfl rfl rfl (wr := [((ad 24), .inl (cI, 800, .inl m_buffer))]) [0] [1] rfl rfl rfl rfl (by decide) (As := [.int (bI true), .int (2 : Int32)]) (rest := []) rfl hl.1 rfl (Nat.le_of_ble_eq_true rfl) dX10_readNumber_56 (fun H locs hP hD hS => ?_)
        refine W.eq (g2 := F0 m 59 ls []) rfl ?_
        have hP : va_P (dC, dI) vwCl [((ad 24), .inl (cI, 800, .inl m_buffer)), (ad 0, .inr (10, oM ad m_undoCount m_thrown m_hasSnapshot a_m_fam m_rows m_lineLength m_formattedLength m_bufferLength m_limit m_next m_beginsAt m_token m_error_56 m_errorAt_56 m_errorPosition m_nested m_codeCount))] H := hP
        have hD : va_D A [((ad 24), .inl (cI, 800, .inl m_buffer)), (ad 0, .inr (10, oM ad m_undoCount m_thrown m_hasSnapshot a_m_fam m_rows m_lineLength m_formattedLength m_bufferLength m_limit m_next m_beginsAt m_token m_error_56 m_errorAt_56 m_errorPosition m_nested m_codeCount))] := hD
        exact J59 r26 m_error_56 m_errorAt_56 H locs ls hf (hP.sub [1, 0] rfl) (hD.sub [1, 0] (by decide) rfl) hS (lv_sub hl [1, 2, 0] rfl)
  refine lv_aload_n hx hb dX10_readNumber_0 rfl (lv_at hl 0 rfl) ?_
  refine lv_aload_n hx hb dX10_readNumber_1 rfl (lv_at hl 0 rfl) ?_
  refine va_get (D := (dC, dI)) (ci := 10) (v := .int m_error) (C := RX10) (T := TX10) (N := 37) hx hb htg inX10 hown hE.1 hP 0 rfl rfl 29 (by decide) (htg _ tw1411) (fun _ h9 => h9) rfl dX10_readNumber_2 ?_
  refine lv_if_ne (tgt := 16) hx hb dX10_readNumber_5 (by decide) (fun h9 => ?_) (fun h9 => ?_)
  · have hf := itf h9 hf
    refine lv_iconst (v := 1) hx hb dX10_readNumber_16 (by decide) ?_
    refine lv_goto (tgt := 21) hx hb dX10_readNumber_17 (by decide) ?_
    refine lv_iconst (v := 1) hx hb dX10_readNumber_21 (by decide) ?_
    obtain ⟨m_error_22, m_errorAt_22, h9⟩ : ∃ m_error_22 m_errorAt_22, p10_check m_beginsAt m_error m_errorAt true (1 : Int32) = (m_error_22, m_errorAt_22) := ⟨_, _, rfl⟩
    have hf := uc2_e (lb_e h9.symm hf)
    refine gcV (index := 415) S hE (c_X10_check ad a_m_fam m_undoCount m_thrown m_hasSnapshot m_rows m_lineLength m_formattedLength m_bufferLength m_limit m_next m_beginsAt m_token m_error m_errorAt m_errorPosition m_nested m_codeCount true (1 : Int32) m_error_22 m_errorAt_22 h9) mX10_check tw1968 ⟨Nat.le_of_ble_eq_true rfl, Nat.le_of_ble_eq_true rfl⟩ hP hD hS hA ⟨Nat.zero_le _, Nat.zero_le _⟩ 0 10 rfl rfl rfl (wr := [((ad 24), .inl (cI, 800, .inl m_buffer))]) [0] [1] rfl rfl rfl rfl (by decide) (As := [.int (bI true), .int (1 : Int32)]) (rest := []) rfl hl.1 rfl (Nat.le_of_ble_eq_true rfl) dX10_readNumber_22 (fun H locs hP hD hS => ?_)
    refine W.eq (g2 := F0 m 25 ls []) rfl ?_
    have hP : va_P (dC, dI) vwCl [((ad 24), .inl (cI, 800, .inl m_buffer)), (ad 0, .inr (10, oM ad m_undoCount m_thrown m_hasSnapshot a_m_fam m_rows m_lineLength m_formattedLength m_bufferLength m_limit m_next m_beginsAt m_token m_error_22 m_errorAt_22 m_errorPosition m_nested m_codeCount))] H := hP
    have hD : va_D A [((ad 24), .inl (cI, 800, .inl m_buffer)), (ad 0, .inr (10, oM ad m_undoCount m_thrown m_hasSnapshot a_m_fam m_rows m_lineLength m_formattedLength m_bufferLength m_limit m_next m_beginsAt m_token m_error_22 m_errorAt_22 m_errorPosition m_nested m_codeCount))] := hD
    exact J25 m_error_22 m_errorAt_22 H locs ls hf (hP.sub [1, 0] rfl) (hD.sub [1, 0] (by decide) rfl) hS (lv_sub hl [0, 1, 2] rfl)
  · have hf := itt h9 hf
    refine lv_aload_n hx hb dX10_readNumber_8 rfl (lv_at hl 0 rfl) ?_
    refine va_get (D := (dC, dI)) (ci := 10) (v := .int m_token) (C := RX10) (T := TX10) (N := 37) hx hb htg inX10 hown hE.1 hP 0 rfl rfl 28 (by decide) (htg _ tw1410) (fun _ h9 => h9) rfl dX10_readNumber_9 ?_
    refine lv_iconst (v := 2) hx hb dX10_readNumber_12 (by decide) ?_
    refine lv_icmp_ne (tgt := 20) hx hb dX10_readNumber_13 (by decide) (fun h9 => ?_) (fun h9 => ?_)
    · have hf := itf h9 hf
      refine lv_iconst (v := 0) hx hb dX10_readNumber_20 (by decide) ?_
      refine lv_iconst (v := 1) hx hb dX10_readNumber_21 (by decide) ?_
      obtain ⟨m_error_22, m_errorAt_22, h9⟩ : ∃ m_error_22 m_errorAt_22, p10_check m_beginsAt m_error m_errorAt false (1 : Int32) = (m_error_22, m_errorAt_22) := ⟨_, _, rfl⟩
      have hf := uc2_e (lb_e h9.symm hf)
      refine gcV (index := 415) S hE (c_X10_check ad a_m_fam m_undoCount m_thrown m_hasSnapshot m_rows m_lineLength m_formattedLength m_bufferLength m_limit m_next m_beginsAt m_token m_error m_errorAt m_errorPosition m_nested m_codeCount false (1 : Int32) m_error_22 m_errorAt_22 h9) mX10_check tw1968 ⟨Nat.le_of_ble_eq_true rfl, Nat.le_of_ble_eq_true rfl⟩ hP hD hS hA ⟨Nat.zero_le _, Nat.zero_le _⟩ 0 10 rfl rfl rfl (wr := [((ad 24), .inl (cI, 800, .inl m_buffer))]) [0] [1] rfl rfl rfl rfl (by decide) (As := [.int (bI false), .int (1 : Int32)]) (rest := []) rfl hl.1 rfl (Nat.le_of_ble_eq_true rfl) dX10_readNumber_22 (fun H locs hP hD hS => ?_)
      refine W.eq (g2 := F0 m 25 ls []) rfl ?_
      have hP : va_P (dC, dI) vwCl [((ad 24), .inl (cI, 800, .inl m_buffer)), (ad 0, .inr (10, oM ad m_undoCount m_thrown m_hasSnapshot a_m_fam m_rows m_lineLength m_formattedLength m_bufferLength m_limit m_next m_beginsAt m_token m_error_22 m_errorAt_22 m_errorPosition m_nested m_codeCount))] H := hP
      have hD : va_D A [((ad 24), .inl (cI, 800, .inl m_buffer)), (ad 0, .inr (10, oM ad m_undoCount m_thrown m_hasSnapshot a_m_fam m_rows m_lineLength m_formattedLength m_bufferLength m_limit m_next m_beginsAt m_token m_error_22 m_errorAt_22 m_errorPosition m_nested m_codeCount))] := hD
      exact J25 m_error_22 m_errorAt_22 H locs ls hf (hP.sub [1, 0] rfl) (hD.sub [1, 0] (by decide) rfl) hS (lv_sub hl [0, 1, 2] rfl)
    · have hf := itt h9 hf
      refine lv_iconst (v := 1) hx hb dX10_readNumber_16 (by decide) ?_
      refine lv_goto (tgt := 21) hx hb dX10_readNumber_17 (by decide) ?_
      refine lv_iconst (v := 1) hx hb dX10_readNumber_21 (by decide) ?_
      obtain ⟨m_error_22, m_errorAt_22, h9⟩ : ∃ m_error_22 m_errorAt_22, p10_check m_beginsAt m_error m_errorAt true (1 : Int32) = (m_error_22, m_errorAt_22) := ⟨_, _, rfl⟩
      have hf := uc2_e (lb_e h9.symm hf)
      refine gcV (index := 415) S hE (c_X10_check ad a_m_fam m_undoCount m_thrown m_hasSnapshot m_rows m_lineLength m_formattedLength m_bufferLength m_limit m_next m_beginsAt m_token m_error m_errorAt m_errorPosition m_nested m_codeCount true (1 : Int32) m_error_22 m_errorAt_22 h9) mX10_check tw1968 ⟨Nat.le_of_ble_eq_true rfl, Nat.le_of_ble_eq_true rfl⟩ hP hD hS hA ⟨Nat.zero_le _, Nat.zero_le _⟩ 0 10 rfl rfl rfl (wr := [((ad 24), .inl (cI, 800, .inl m_buffer))]) [0] [1] rfl rfl rfl rfl (by decide) (As := [.int (bI true), .int (1 : Int32)]) (rest := []) rfl hl.1 rfl (Nat.le_of_ble_eq_true rfl) dX10_readNumber_22 (fun H locs hP hD hS => ?_)
      refine W.eq (g2 := F0 m 25 ls []) rfl ?_
      have hP : va_P (dC, dI) vwCl [((ad 24), .inl (cI, 800, .inl m_buffer)), (ad 0, .inr (10, oM ad m_undoCount m_thrown m_hasSnapshot a_m_fam m_rows m_lineLength m_formattedLength m_bufferLength m_limit m_next m_beginsAt m_token m_error_22 m_errorAt_22 m_errorPosition m_nested m_codeCount))] H := hP
      have hD : va_D A [((ad 24), .inl (cI, 800, .inl m_buffer)), (ad 0, .inr (10, oM ad m_undoCount m_thrown m_hasSnapshot a_m_fam m_rows m_lineLength m_formattedLength m_bufferLength m_limit m_next m_beginsAt m_token m_error_22 m_errorAt_22 m_errorPosition m_nested m_codeCount))] := hD
      exact J25 m_error_22 m_errorAt_22 H locs ls hf (hP.sub [1, 0] rfl) (hD.sub [1, 0] (by decide) rfl) hS (lv_sub hl [0, 1, 2] rfl)
def p10_nameHere_J41 (v1_41 : Int64) : Option (Int64) := some v1_41
def p10_nameHere_L7_B (m_buffer : Nat → Int32) (m_next : Int32) (k7 : Int64 → Int32 → Option (Int64)) (v1_7 : Int64) (v3_7 : Int32) : Option (Int64) := (if m_next ≤ v3_7 then some v1_7 else gd v3_7 800 (lb (((((27 : Int64) * v1_7) + (m_buffer v3_7.toNatClampNeg).toInt64) - (97 : Int64)) + (1 : Int64)) (fun t34 => lb (v3_7 + (1 : Int32)) (fun t35 => (k7 t34 t35)))))
def p10_nameHere_L7 (m_buffer : Nat → Int32) (m_next : Int32) : Nat → Int64 → Int32 → Option (Int64)
  | 0, _, _ => none
  | n+1, v1_7, v3_7 => p10_nameHere_L7_B m_buffer m_next (p10_nameHere_L7 m_buffer m_next n) v1_7 v3_7
def p10_nameHere (m_next : Int32) (m_beginsAt : Int32) (m_buffer : Nat → Int32) : Option (Int64) := (ob (p10_nameHere_L7 m_buffer m_next FU (0 : Int64) m_beginsAt) (fun v1_x7 => p10_nameHere_J41 v1_x7))
set_option maxHeartbeats 4000000 in
set_option maxRecDepth 100000 in
theorem c_X10_nameHere (ad : Nat → Nat) (a_m_fam : Nat) (m_undoCount : Int32) (m_thrown : Int32) (m_hasSnapshot : Bool) (m_rows : Int32) (m_lineLength : Int32) (m_formattedLength : Int32) (m_bufferLength : Int32) (m_limit : Int32) (m_next : Int32) (m_beginsAt : Int32) (m_token : Int32) (m_error : Int32) (m_errorAt : Int32) (m_errorPosition : Int32) (m_nested : Int32) (m_codeCount : Int32) (m_buffer : Nat → Int32) (r9 : Int64) (hf : p10_nameHere m_next m_beginsAt m_buffer = some r9) : gM l dC dI cI cJ cZ yX10_nameHere cX10_nameHere 4 (some .long) (0) (0) [.ref (ad 0)] [(ad 0, .inr (10, oM ad m_undoCount m_thrown m_hasSnapshot a_m_fam m_rows m_lineLength m_formattedLength m_bufferLength m_limit m_next m_beginsAt m_token m_error m_errorAt m_errorPosition m_nested m_codeCount)), ((ad 24), .inl (cI, 800, .inl m_buffer))] [(ad 0, .inr (10, oM ad m_undoCount m_thrown m_hasSnapshot a_m_fam m_rows m_lineLength m_formattedLength m_bufferLength m_limit m_next m_beginsAt m_token m_error m_errorAt m_errorPosition m_nested m_codeCount)), ((ad 24), .inl (cI, 800, .inl m_buffer))] (some (.long r9)) := by
  refine g_start (own := RX10) (by decide +kernel) rfl (Nat.le_of_ble_eq_true rfl) ?_
  intro p e s m below meth c A ls S hr hlocks hE hP hD hS hA hl hin
  have hx := S.1
  have hb := S.2.1
  have hml := S.2.2.1
  have hown := S.2.2.2.1
  have htg : ∀ z ∈ gw, z.before ([.ref (ad 0)] : List Value).toArray s = true := fun w h => S.2.2.2.2 w (List.mem_cons_of_mem _ h)
  have hl : lv_has ls 4 [(0, .ref (ad 0))] := hl
  have hS0 := hS
  obtain ⟨H, hH⟩ : ∃ H, H = s.heap := ⟨_, rfl⟩
  obtain ⟨locs, hlc⟩ : ∃ locs : List Loc, locs = [] := ⟨_, rfl⟩
  have hS : va_S A s.heap H locs := by rw [hH, hlc]; exact hS0
  have hP : va_P (dC, dI) vwCl [(ad 0, .inr (10, oM ad m_undoCount m_thrown m_hasSnapshot a_m_fam m_rows m_lineLength m_formattedLength m_bufferLength m_limit m_next m_beginsAt m_token m_error m_errorAt m_errorPosition m_nested m_codeCount)), ((ad 24), .inl (cI, 800, .inl m_buffer))] H := by rw [hH]; exact hP
  suffices hgo : W p l e ({ frames := 0, cells := 0, slots := 0, locals := 0 }) s m ([.ref (ad 0)] : List Value).toArray below meth c H locs 0 0 (MQ below (gQ dC dI (some (.long r9)) A [(ad 0, .inr (10, oM ad m_undoCount m_thrown m_hasSnapshot a_m_fam m_rows m_lineLength m_formattedLength m_bufferLength m_limit m_next m_beginsAt m_token m_error m_errorAt m_errorPosition m_nested m_codeCount)), ((ad 24), .inl (cI, 800, .inl m_buffer))]) ([.ref (ad 0)] : List Value).toArray s 0 0 A) (F0 m 0 ls []) by rw [hH, hlc] at hgo; exact hgo
  rw [p10_nameHere] at hf
  have J41 : ∀ (v1_41 : Int64) (H : Heap) (locs : List Loc) (ls : Array Slot), p10_nameHere_J41 v1_41 = some r9 → va_P (dC, dI) vwCl [(ad 0, .inr (10, oM ad m_undoCount m_thrown m_hasSnapshot a_m_fam m_rows m_lineLength m_formattedLength m_bufferLength m_limit m_next m_beginsAt m_token m_error m_errorAt m_errorPosition m_nested m_codeCount)), ((ad 24), .inl (cI, 800, .inl m_buffer))] H → va_D A [(ad 0, .inr (10, oM ad m_undoCount m_thrown m_hasSnapshot a_m_fam m_rows m_lineLength m_formattedLength m_bufferLength m_limit m_next m_beginsAt m_token m_error m_errorAt m_errorPosition m_nested m_codeCount)), ((ad 24), .inl (cI, 800, .inl m_buffer))] → va_S A s.heap H locs → lv_has ls 4 [(1, .long v1_41)] → W p l e ({ frames := 0, cells := 0, slots := 0, locals := 0 }) s m ([.ref (ad 0)] : List Value).toArray below meth c H locs 0 0 (MQ below (gQ dC dI (some (.long r9)) A [(ad 0, .inr (10, oM ad m_undoCount m_thrown m_hasSnapshot a_m_fam m_rows m_lineLength m_formattedLength m_bufferLength m_limit m_next m_beginsAt m_token m_error m_errorAt m_errorPosition m_nested m_codeCount)), ((ad 24), .inl (cI, 800, .inl m_buffer))]) ([.ref (ad 0)] : List Value).toArray s 0 0 A) (F0 m 41 ls []) := by
    intro v1_41 H locs ls hf hP hD hS hl
    rw [p10_nameHere_J41] at hf
    refine lv_lload_n hx hb dX10_nameHere_41 rfl (lv_at hl 0 rfl) ?_
    cases hf
    exact g_lret S hr hlocks hP hD hS dX10_nameHere_42
  refine lv_lconst (v := 0) hx hb dX10_nameHere_0 (by decide) ?_
  refine lv_lstore_n (lv' := [(1, .long (0 : Int64)), (0, .ref (ad 0))]) hx hb dX10_nameHere_1 rfl hl (by decide) rfl (fun ls hl => ?_)
  refine lv_aload_n hx hb dX10_nameHere_2 rfl (lv_at hl 1 rfl) ?_
  refine va_get (D := (dC, dI)) (ci := 10) (v := .int m_beginsAt) (C := RX10) (T := TX10) (N := 37) hx hb htg inX10 hown hE.1 hP 0 rfl rfl 27 (by decide) (htg _ tw1409) (fun _ h9 => h9) rfl dX10_nameHere_3 ?_
  refine lv_istore_n (lv' := [(3, .int m_beginsAt), (1, .long (0 : Int64)), (0, .ref (ad 0))]) hx hb dX10_nameHere_6 rfl hl (by decide) rfl (fun ls hl => ?_)
  have K7 : ∀ (n7 : Nat) (v1_7 : Int64) (v3_7 : Int32) (ex7 : Int64) (H : Heap) (locs : List Loc) (ls : Array Slot), p10_nameHere_L7 m_buffer m_next n7 v1_7 v3_7 = some ex7 → (fun v1_x7 => p10_nameHere_J41 v1_x7) ex7 = some r9 → va_P (dC, dI) vwCl [(ad 0, .inr (10, oM ad m_undoCount m_thrown m_hasSnapshot a_m_fam m_rows m_lineLength m_formattedLength m_bufferLength m_limit m_next m_beginsAt m_token m_error m_errorAt m_errorPosition m_nested m_codeCount)), ((ad 24), .inl (cI, 800, .inl m_buffer))] H → va_D A [(ad 0, .inr (10, oM ad m_undoCount m_thrown m_hasSnapshot a_m_fam m_rows m_lineLength m_formattedLength m_bufferLength m_limit m_next m_beginsAt m_token m_error m_errorAt m_errorPosition m_nested m_codeCount)), ((ad 24), .inl (cI, 800, .inl m_buffer))] → va_S A s.heap H locs → lv_has ls 4 [(0, .ref (ad 0)), (1, .long v1_7), (3, .int v3_7)] → W p l e ({ frames := 0, cells := 0, slots := 0, locals := 0 }) s m ([.ref (ad 0)] : List Value).toArray below meth c H locs 0 0 (MQ below (gQ dC dI (some (.long r9)) A [(ad 0, .inr (10, oM ad m_undoCount m_thrown m_hasSnapshot a_m_fam m_rows m_lineLength m_formattedLength m_bufferLength m_limit m_next m_beginsAt m_token m_error m_errorAt m_errorPosition m_nested m_codeCount)), ((ad 24), .inl (cI, 800, .inl m_buffer))]) ([.ref (ad 0)] : List Value).toArray s 0 0 A) (F0 m 7 ls []) := by
    intro n7
    induction n7 with
    | zero => intro v1_7 v3_7 ex7 H locs ls hf; rw [p10_nameHere_L7] at hf; cases hf
    | succ n7 ih7 =>
      intro v1_7 v3_7 ex7 H locs ls hf hk7 hP hD hS hl
      rw [p10_nameHere_L7, p10_nameHere_L7_B] at hf
      refine lv_iload_n hx hb dX10_nameHere_7 rfl (lv_at hl 2 rfl) ?_
      refine lv_aload_n hx hb dX10_nameHere_8 rfl (lv_at hl 0 rfl) ?_
      refine va_get (D := (dC, dI)) (ci := 10) (v := .int m_next) (C := RX10) (T := TX10) (N := 37) hx hb htg inX10 hown hE.1 hP 0 rfl rfl 26 (by decide) (htg _ tw1408) (fun _ h9 => h9) rfl dX10_nameHere_9 ?_
      refine lv_icmp_ge (tgt := 41) hx hb dX10_nameHere_12 (by decide) (fun h9 => ?_) (fun h9 => ?_)
      · have hf := itt h9 hf
        cases hf
        have hf := hk7
        exact J41 v1_7 H locs ls hf hP hD hS (lv_sub hl [1] rfl)
      · have hf := itf h9 hf
        refine lv_ldc2 (own := RX10) (v := 27) hx hb hown (htg _ tw1801) dX10_nameHere_15 ?_
        refine lv_lload_n hx hb dX10_nameHere_18 rfl (lv_at hl 1 rfl) ?_
        refine lv_lmul hx hb dX10_nameHere_19 ?_
        refine lv_aload_n hx hb dX10_nameHere_20 rfl (lv_at hl 0 rfl) ?_
        refine va_get (D := (dC, dI)) (ci := 10) (v := .ref (ad 24)) (C := RX10) (T := TX10) (N := 37) hx hb htg inX10 hown hE.1 hP 0 rfl rfl 23 (by decide) (htg _ tw1405) (fun _ h9 => h9) rfl dX10_nameHere_21 ?_
        refine lv_iload_n hx hb dX10_nameHere_24 rfl (lv_at hl 2 rfl) ?_
        obtain ⟨h9, hf⟩ := gd_s hf
        refine va_iald hx hb hE.1 hP 1 0 rfl rfl h9 dX10_nameHere_25 ?_
        refine lv_i2l hx hb dX10_nameHere_26 rfl ?_
        refine lv_ladd hx hb dX10_nameHere_27 ?_
        refine lv_ldc2 (own := RX10) (v := 97) hx hb hown (htg _ tw1988) dX10_nameHere_28 ?_
        refine lv_lsub hx hb dX10_nameHere_31 ?_
        refine lv_lconst (v := 1) hx hb dX10_nameHere_32 (by decide) ?_
        refine lv_ladd hx hb dX10_nameHere_33 ?_
        refine lv_topl (fun t34 h9 => ?_)
        have hf := lb_e h9 hf
        refine lv_lstore_n (lv' := [(1, .long t34), (0, .ref (ad 0)), (3, .int v3_7)]) hx hb dX10_nameHere_34 rfl hl (by decide) rfl (fun ls hl => ?_)
        obtain ⟨t35, h9⟩ : ∃ z : Int32, z = (v3_7 + (1 : Int32)) := ⟨_, rfl⟩
        have hf := lb_e h9 hf
        refine lv_iinc (v := t35) (lv' := [(3, .int t35), (1, .long t34), (0, .ref (ad 0))]) hx hb dX10_nameHere_35 hl (k := 2) rfl (by rw [h9]; rfl) (by decide) rfl (fun ls hl => ?_)
        refine lv_goto (tgt := 7) hx hb dX10_nameHere_38 (by decide) ?_
        exact ih7 t34 t35 ex7 H locs ls hf hk7 hP hD hS (lv_sub hl [2, 1, 0] rfl)
  obtain ⟨ex, h9, hf⟩ := ob_s hf
  exact K7 FU (0 : Int64) m_beginsAt ex H locs ls h9 hf hP hD hS (lv_sub hl [2, 1, 0] rfl)
def p10_personHere_J54  : Option (Int32) := some (-1 : Int32)
def p10_personHere_L2_B (m_beginsAt : Int32) (m_buffer : Nat → Int32) (m_fam : Nat → Int64) (m_next : Int32) (m_token : Int32) (k2 : Int32 → Option ((Int32) ⊕ (Unit))) (v1_2 : Int32) : Option ((Int32) ⊕ (Unit)) := ob (p10_persons m_fam) (fun r4 => (if r4 ≤ v1_2 then some (.inr ()) else (if m_token = (1 : Int32) then (if (8 : Int32) < (m_next - m_beginsAt) then some (.inr ()) else ob (p10_ofPerson m_fam v1_2 (2 : Int32)) (fun r35 => ob (p10_nameHere m_next m_beginsAt m_buffer) (fun r39 => (if r35 = r39 then some (.inl v1_2) else lb (v1_2 + (1 : Int32)) (fun t48 => (k2 t48)))))) else some (.inr ()))))
def p10_personHere_L2 (m_beginsAt : Int32) (m_buffer : Nat → Int32) (m_fam : Nat → Int64) (m_next : Int32) (m_token : Int32) : Nat → Int32 → Option ((Int32) ⊕ (Unit))
  | 0, _ => none
  | n+1, v1_2 => p10_personHere_L2_B m_beginsAt m_buffer m_fam m_next m_token (p10_personHere_L2 m_beginsAt m_buffer m_fam m_next m_token n) v1_2
def p10_personHere (m_next : Int32) (m_beginsAt : Int32) (m_token : Int32) (m_buffer : Nat → Int32) (m_fam : Nat → Int64) : Option (Int32) := (os (p10_personHere_L2 m_beginsAt m_buffer m_fam m_next m_token FU (0 : Int32)) (fun r_x2 => some r_x2) (fun _ => p10_personHere_J54))
set_option maxHeartbeats 4000000 in
set_option maxRecDepth 100000 in
theorem c_X10_personHere (ad : Nat → Nat) (a_m_fam : Nat) (m_undoCount : Int32) (m_thrown : Int32) (m_hasSnapshot : Bool) (m_rows : Int32) (m_lineLength : Int32) (m_formattedLength : Int32) (m_bufferLength : Int32) (m_limit : Int32) (m_next : Int32) (m_beginsAt : Int32) (m_token : Int32) (m_error : Int32) (m_errorAt : Int32) (m_errorPosition : Int32) (m_nested : Int32) (m_codeCount : Int32) (m_buffer : Nat → Int32) (m_fam : Nat → Int64) (r9 : Int32) (hf : p10_personHere m_next m_beginsAt m_token m_buffer m_fam = some r9) : gM l dC dI cI cJ cZ yX10_personHere cX10_personHere 2 (some .int) (1) (23) [.ref (ad 0)] [(ad 0, .inr (10, oM ad m_undoCount m_thrown m_hasSnapshot a_m_fam m_rows m_lineLength m_formattedLength m_bufferLength m_limit m_next m_beginsAt m_token m_error m_errorAt m_errorPosition m_nested m_codeCount)), ((ad 24), .inl (cI, 800, .inl m_buffer)), (a_m_fam, .inl (cJ, 130, .inr (.inl m_fam)))] [(ad 0, .inr (10, oM ad m_undoCount m_thrown m_hasSnapshot a_m_fam m_rows m_lineLength m_formattedLength m_bufferLength m_limit m_next m_beginsAt m_token m_error m_errorAt m_errorPosition m_nested m_codeCount)), ((ad 24), .inl (cI, 800, .inl m_buffer)), (a_m_fam, .inl (cJ, 130, .inr (.inl m_fam)))] (some (.int r9)) := by
  refine g_start (own := RX10) (by decide +kernel) rfl (Nat.le_of_ble_eq_true rfl) ?_
  intro p e s m below meth c A ls S hr hlocks hE hP hD hS hA hl hin
  have hx := S.1
  have hb := S.2.1
  have hml := S.2.2.1
  have hown := S.2.2.2.1
  have htg : ∀ z ∈ gw, z.before ([.ref (ad 0)] : List Value).toArray s = true := fun w h => S.2.2.2.2 w (List.mem_cons_of_mem _ h)
  have hl : lv_has ls 2 [(0, .ref (ad 0))] := hl
  have hS0 := hS
  obtain ⟨H, hH⟩ : ∃ H, H = s.heap := ⟨_, rfl⟩
  obtain ⟨locs, hlc⟩ : ∃ locs : List Loc, locs = [] := ⟨_, rfl⟩
  have hS : va_S A s.heap H locs := by rw [hH, hlc]; exact hS0
  have hP : va_P (dC, dI) vwCl [(ad 0, .inr (10, oM ad m_undoCount m_thrown m_hasSnapshot a_m_fam m_rows m_lineLength m_formattedLength m_bufferLength m_limit m_next m_beginsAt m_token m_error m_errorAt m_errorPosition m_nested m_codeCount)), ((ad 24), .inl (cI, 800, .inl m_buffer)), (a_m_fam, .inl (cJ, 130, .inr (.inl m_fam)))] H := by rw [hH]; exact hP
  suffices hgo : W p l e ({ frames := 1, cells := 0, slots := 0, locals := 23 }) s m ([.ref (ad 0)] : List Value).toArray below meth c H locs 0 0 (MQ below (gQ dC dI (some (.int r9)) A [(ad 0, .inr (10, oM ad m_undoCount m_thrown m_hasSnapshot a_m_fam m_rows m_lineLength m_formattedLength m_bufferLength m_limit m_next m_beginsAt m_token m_error m_errorAt m_errorPosition m_nested m_codeCount)), ((ad 24), .inl (cI, 800, .inl m_buffer)), (a_m_fam, .inl (cJ, 130, .inr (.inl m_fam)))]) ([.ref (ad 0)] : List Value).toArray s 0 0 A) (F0 m 0 ls []) by rw [hH, hlc] at hgo; exact hgo
  rw [p10_personHere] at hf
  have J54 : ∀  (H : Heap) (locs : List Loc) (ls : Array Slot), p10_personHere_J54  = some r9 → va_P (dC, dI) vwCl [(ad 0, .inr (10, oM ad m_undoCount m_thrown m_hasSnapshot a_m_fam m_rows m_lineLength m_formattedLength m_bufferLength m_limit m_next m_beginsAt m_token m_error m_errorAt m_errorPosition m_nested m_codeCount)), ((ad 24), .inl (cI, 800, .inl m_buffer)), (a_m_fam, .inl (cJ, 130, .inr (.inl m_fam)))] H → va_D A [(ad 0, .inr (10, oM ad m_undoCount m_thrown m_hasSnapshot a_m_fam m_rows m_lineLength m_formattedLength m_bufferLength m_limit m_next m_beginsAt m_token m_error m_errorAt m_errorPosition m_nested m_codeCount)), ((ad 24), .inl (cI, 800, .inl m_buffer)), (a_m_fam, .inl (cJ, 130, .inr (.inl m_fam)))] → va_S A s.heap H locs → lv_has ls 2 [] → W p l e ({ frames := 1, cells := 0, slots := 0, locals := 23 }) s m ([.ref (ad 0)] : List Value).toArray below meth c H locs 0 0 (MQ below (gQ dC dI (some (.int r9)) A [(ad 0, .inr (10, oM ad m_undoCount m_thrown m_hasSnapshot a_m_fam m_rows m_lineLength m_formattedLength m_bufferLength m_limit m_next m_beginsAt m_token m_error m_errorAt m_errorPosition m_nested m_codeCount)), ((ad 24), .inl (cI, 800, .inl m_buffer)), (a_m_fam, .inl (cJ, 130, .inr (.inl m_fam)))]) ([.ref (ad 0)] : List Value).toArray s 0 0 A) (F0 m 54 ls []) := by
    intro  H locs ls hf hP hD hS hl
    rw [p10_personHere_J54] at hf
    refine lv_iconst (v := -1) hx hb dX10_personHere_54 (by decide) ?_
    cases hf
    exact g_iret S hr hlocks hP hD hS dX10_personHere_55
  refine lv_iconst (v := 0) hx hb dX10_personHere_0 (by decide) ?_
  refine lv_istore_n (lv' := [(1, .int (0 : Int32)), (0, .ref (ad 0))]) hx hb dX10_personHere_1 rfl hl (by decide) rfl (fun ls hl => ?_)
  have K2 : ∀ (n2 : Nat) (v1_2 : Int32) (ex2 : (Int32) ⊕ (Unit)) (H : Heap) (locs : List Loc) (ls : Array Slot), p10_personHere_L2 m_beginsAt m_buffer m_fam m_next m_token n2 v1_2 = some ex2 → oc ex2 (fun r_x2 => some r_x2) (fun _ => p10_personHere_J54) = some r9 → va_P (dC, dI) vwCl [(ad 0, .inr (10, oM ad m_undoCount m_thrown m_hasSnapshot a_m_fam m_rows m_lineLength m_formattedLength m_bufferLength m_limit m_next m_beginsAt m_token m_error m_errorAt m_errorPosition m_nested m_codeCount)), ((ad 24), .inl (cI, 800, .inl m_buffer)), (a_m_fam, .inl (cJ, 130, .inr (.inl m_fam)))] H → va_D A [(ad 0, .inr (10, oM ad m_undoCount m_thrown m_hasSnapshot a_m_fam m_rows m_lineLength m_formattedLength m_bufferLength m_limit m_next m_beginsAt m_token m_error m_errorAt m_errorPosition m_nested m_codeCount)), ((ad 24), .inl (cI, 800, .inl m_buffer)), (a_m_fam, .inl (cJ, 130, .inr (.inl m_fam)))] → va_S A s.heap H locs → lv_has ls 2 [(0, .ref (ad 0)), (1, .int v1_2)] → W p l e ({ frames := 1, cells := 0, slots := 0, locals := 23 }) s m ([.ref (ad 0)] : List Value).toArray below meth c H locs 0 0 (MQ below (gQ dC dI (some (.int r9)) A [(ad 0, .inr (10, oM ad m_undoCount m_thrown m_hasSnapshot a_m_fam m_rows m_lineLength m_formattedLength m_bufferLength m_limit m_next m_beginsAt m_token m_error m_errorAt m_errorPosition m_nested m_codeCount)), ((ad 24), .inl (cI, 800, .inl m_buffer)), (a_m_fam, .inl (cJ, 130, .inr (.inl m_fam)))]) ([.ref (ad 0)] : List Value).toArray s 0 0 A) (F0 m 2 ls []) := by
    intro n2
    induction n2 with
    | zero => intro v1_2 ex2 H locs ls hf; rw [p10_personHere_L2] at hf; cases hf
    | succ n2 ih2 =>
      intro v1_2 ex2 H locs ls hf hk2 hP hD hS hl
      rw [p10_personHere_L2, p10_personHere_L2_B] at hf
      refine lv_iload_n hx hb dX10_personHere_2 rfl (lv_at hl 1 rfl) ?_
      refine lv_aload_n hx hb dX10_personHere_3 rfl (lv_at hl 0 rfl) ?_
      obtain ⟨r4, h9, hf⟩ := ob_s hf
      refine gcV (index := 121) S hE (c_X10_persons ad a_m_fam m_undoCount m_thrown m_hasSnapshot m_rows m_lineLength m_formattedLength m_bufferLength m_limit m_next m_beginsAt m_token m_error m_errorAt m_errorPosition m_nested m_codeCount m_fam r4 h9) mX10_persons tw1511 ⟨Nat.le_of_ble_eq_true rfl, Nat.le_of_ble_eq_true rfl⟩ hP hD hS hA ⟨Nat.zero_le _, Nat.zero_le _⟩ 0 10 rfl rfl rfl (wr := [((ad 24), .inl (cI, 800, .inl m_buffer))]) [0, 2] [1] rfl rfl rfl rfl (by decide) (As := []) (rest := [.int v1_2]) rfl hl.1 rfl (Nat.le_of_ble_eq_true rfl) dX10_personHere_4 (fun H locs hP hD hS => ?_)
      refine W.eq (g2 := F0 m 7 ls [.int r4, .int v1_2]) rfl ?_
      have hP : va_P (dC, dI) vwCl [((ad 24), .inl (cI, 800, .inl m_buffer)), (ad 0, .inr (10, oM ad m_undoCount m_thrown m_hasSnapshot a_m_fam m_rows m_lineLength m_formattedLength m_bufferLength m_limit m_next m_beginsAt m_token m_error m_errorAt m_errorPosition m_nested m_codeCount)), (a_m_fam, .inl (cJ, 130, .inr (.inl m_fam)))] H := hP
      have hD : va_D A [((ad 24), .inl (cI, 800, .inl m_buffer)), (ad 0, .inr (10, oM ad m_undoCount m_thrown m_hasSnapshot a_m_fam m_rows m_lineLength m_formattedLength m_bufferLength m_limit m_next m_beginsAt m_token m_error m_errorAt m_errorPosition m_nested m_codeCount)), (a_m_fam, .inl (cJ, 130, .inr (.inl m_fam)))] := hD
      refine lv_icmp_ge (tgt := 54) hx hb dX10_personHere_7 (by decide) (fun h9 => ?_) (fun h9 => ?_)
      · have hf := itt h9 hf
        cases hf
        have hf := hk2
        dsimp only [oc] at hf
        exact J54 H locs ls hf (hP.sub [1, 0, 2] rfl) (hD.sub [1, 0, 2] (by decide) rfl) hS (lv_sub hl [] rfl)
      · have hf := itf h9 hf
        refine lv_aload_n hx hb dX10_personHere_10 rfl (lv_at hl 0 rfl) ?_
        refine va_get (D := (dC, dI)) (ci := 10) (v := .int m_token) (C := RX10) (T := TX10) (N := 37) hx hb htg inX10 hown hE.1 hP 1 rfl rfl 28 (by decide) (htg _ tw1410) (fun _ h9 => h9) rfl dX10_personHere_11 ?_
        refine lv_iconst (v := 1) hx hb dX10_personHere_14 (by decide) ?_
        refine lv_icmp_ne (tgt := 54) hx hb dX10_personHere_15 (by decide) (fun h9 => ?_) (fun h9 => ?_)
        · have hf := itf h9 hf
          cases hf
          have hf := hk2
          dsimp only [oc] at hf
          exact J54 H locs ls hf (hP.sub [1, 0, 2] rfl) (hD.sub [1, 0, 2] (by decide) rfl) hS (lv_sub hl [] rfl)
        · have hf := itt h9 hf
          refine lv_aload_n hx hb dX10_personHere_18 rfl (lv_at hl 0 rfl) ?_
          refine va_get (D := (dC, dI)) (ci := 10) (v := .int m_next) (C := RX10) (T := TX10) (N := 37) hx hb htg inX10 hown hE.1 hP 1 rfl rfl 26 (by decide) (htg _ tw1408) (fun _ h9 => h9) rfl dX10_personHere_19 ?_
          refine lv_aload_n hx hb dX10_personHere_22 rfl (lv_at hl 0 rfl) ?_
          refine va_get (D := (dC, dI)) (ci := 10) (v := .int m_beginsAt) (C := RX10) (T := TX10) (N := 37) hx hb htg inX10 hown hE.1 hP 1 rfl rfl 27 (by decide) (htg _ tw1409) (fun _ h9 => h9) rfl dX10_personHere_23 ?_
          refine lv_isub hx hb dX10_personHere_26 ?_
          refine lv_bipush (v := 8) hx hb dX10_personHere_27 (by decide) ?_
          refine lv_icmp_gt (tgt := 54) hx hb dX10_personHere_29 (by decide) (fun h9 => ?_) (fun h9 => ?_)
          · have hf := itt h9 hf
            cases hf
            have hf := hk2
            dsimp only [oc] at hf
            exact J54 H locs ls hf (hP.sub [1, 0, 2] rfl) (hD.sub [1, 0, 2] (by decide) rfl) hS (lv_sub hl [] rfl)
          · have hf := itf h9 hf
            refine lv_aload_n hx hb dX10_personHere_32 rfl (lv_at hl 0 rfl) ?_
            refine lv_iload_n hx hb dX10_personHere_33 rfl (lv_at hl 1 rfl) ?_
            refine lv_iconst (v := 2) hx hb dX10_personHere_34 (by decide) ?_
            obtain ⟨r35, h9, hf⟩ := ob_s hf
            refine gcV (index := 98) S hE (c_X10_ofPerson ad a_m_fam m_undoCount m_thrown m_hasSnapshot m_rows m_lineLength m_formattedLength m_bufferLength m_limit m_next m_beginsAt m_token m_error m_errorAt m_errorPosition m_nested m_codeCount m_fam v1_2 (2 : Int32) r35 h9) mX10_ofPerson tw1519 ⟨Nat.le_of_ble_eq_true rfl, Nat.le_of_ble_eq_true rfl⟩ hP hD hS hA ⟨Nat.zero_le _, Nat.zero_le _⟩ 1 10 rfl rfl rfl (wr := [((ad 24), .inl (cI, 800, .inl m_buffer))]) [1, 2] [0] rfl rfl rfl rfl (by decide) (As := [.int v1_2, .int (2 : Int32)]) (rest := []) rfl hl.1 rfl (Nat.le_of_ble_eq_true rfl) dX10_personHere_35 (fun H locs hP hD hS => ?_)
            refine W.eq (g2 := F0 m 38 ls [.long r35]) rfl ?_
            have hP : va_P (dC, dI) vwCl [((ad 24), .inl (cI, 800, .inl m_buffer)), (ad 0, .inr (10, oM ad m_undoCount m_thrown m_hasSnapshot a_m_fam m_rows m_lineLength m_formattedLength m_bufferLength m_limit m_next m_beginsAt m_token m_error m_errorAt m_errorPosition m_nested m_codeCount)), (a_m_fam, .inl (cJ, 130, .inr (.inl m_fam)))] H := hP
            have hD : va_D A [((ad 24), .inl (cI, 800, .inl m_buffer)), (ad 0, .inr (10, oM ad m_undoCount m_thrown m_hasSnapshot a_m_fam m_rows m_lineLength m_formattedLength m_bufferLength m_limit m_next m_beginsAt m_token m_error m_errorAt m_errorPosition m_nested m_codeCount)), (a_m_fam, .inl (cJ, 130, .inr (.inl m_fam)))] := hD
            refine lv_aload_n hx hb dX10_personHere_38 rfl (lv_at hl 0 rfl) ?_
            obtain ⟨r39, h9, hf⟩ := ob_s hf
            refine gcV (index := 434) S hE (c_X10_nameHere ad a_m_fam m_undoCount m_thrown m_hasSnapshot m_rows m_lineLength m_formattedLength m_bufferLength m_limit m_next m_beginsAt m_token m_error m_errorAt m_errorPosition m_nested m_codeCount m_buffer r39 h9) mX10_nameHere tw1984 ⟨Nat.le_of_ble_eq_true rfl, Nat.le_of_ble_eq_true rfl⟩ hP hD hS hA ⟨Nat.zero_le _, Nat.zero_le _⟩ 1 10 rfl rfl rfl (wr := [(a_m_fam, .inl (cJ, 130, .inr (.inl m_fam)))]) [1, 0] [2] rfl rfl rfl rfl (by decide) (As := []) (rest := [.long r35]) rfl hl.1 rfl (Nat.le_of_ble_eq_true rfl) dX10_personHere_39 (fun H locs hP hD hS => ?_)
            refine W.eq (g2 := F0 m 42 ls [.long r39, .long r35]) rfl ?_
            have hP : va_P (dC, dI) vwCl [(a_m_fam, .inl (cJ, 130, .inr (.inl m_fam))), (ad 0, .inr (10, oM ad m_undoCount m_thrown m_hasSnapshot a_m_fam m_rows m_lineLength m_formattedLength m_bufferLength m_limit m_next m_beginsAt m_token m_error m_errorAt m_errorPosition m_nested m_codeCount)), ((ad 24), .inl (cI, 800, .inl m_buffer))] H := hP
            have hD : va_D A [(a_m_fam, .inl (cJ, 130, .inr (.inl m_fam))), (ad 0, .inr (10, oM ad m_undoCount m_thrown m_hasSnapshot a_m_fam m_rows m_lineLength m_formattedLength m_bufferLength m_limit m_next m_beginsAt m_token m_error m_errorAt m_errorPosition m_nested m_codeCount)), ((ad 24), .inl (cI, 800, .inl m_buffer))] := hD
            refine W.lcmp hx hb dX10_personHere_42 ?_
            refine lv_if_ne (tgt := 48) hx hb dX10_personHere_43 (by decide) (fun h9 => ?_) (fun h9 => ?_)
            · have h9 := fun q => h9 ((lg_cmp_eq _ _).mpr q)
              have hf := itf h9 hf
              obtain ⟨t48, h9⟩ : ∃ z : Int32, z = (v1_2 + (1 : Int32)) := ⟨_, rfl⟩
              have hf := lb_e h9 hf
              refine lv_iinc (v := t48) (lv' := [(1, .int t48), (0, .ref (ad 0))]) hx hb dX10_personHere_48 hl (k := 1) rfl (by rw [h9]; rfl) (by decide) rfl (fun ls hl => ?_)
              refine lv_goto (tgt := 2) hx hb dX10_personHere_51 (by decide) ?_
              exact ih2 t48 ex2 H locs ls hf hk2 (hP.sub [1, 2, 0] rfl) (hD.sub [1, 2, 0] (by decide) rfl) hS (lv_sub hl [1, 0] rfl)
            · have h9 := (lg_cmp_eq _ _).mp h9
              have hf := itt h9 hf
              refine lv_iload_n hx hb dX10_personHere_46 rfl (lv_at hl 1 rfl) ?_
              cases hf
              have hf := hk2
              dsimp only [oc] at hf
              cases hf
              exact g_iret S hr hlocks (hP.sub [1, 2, 0] rfl) (hD.sub [1, 2, 0] (by decide) rfl) hS dX10_personHere_47
  obtain ⟨ex, h9, hf⟩ := os_s hf
  exact K2 FU (0 : Int32) ex H locs ls h9 hf hP hD hS (lv_sub hl [1, 0] rfl)
end G_31_FamilyChartModel03
