section G_29_QueryReader
variable {l : Launch} {dC : Nat → ClassId} {dI : Nat → Nat → Nat} {cI cJ cZ : ClassId}
def p5_firstOf_J25  : Option (Int32) := some (-1 : Int32)
def p5_firstOf_L2_B (v0 : Int32) (k2 : Int32 → Option ((Int32) ⊕ (Unit))) (v1_2 : Int32) : Option ((Int32) ⊕ (Unit)) := (if (16 : Int32) ≤ v1_2 then some (.inr ()) else (if (v0 &&& (p9_bit v1_2)) = (0 : Int32) then lb (v1_2 + (1 : Int32)) (fun t19 => (k2 t19)) else some (.inl v1_2)))
def p5_firstOf_L2 (v0 : Int32) : Nat → Int32 → Option ((Int32) ⊕ (Unit))
  | 0, _ => none
  | n+1, v1_2 => p5_firstOf_L2_B v0 (p5_firstOf_L2 v0 n) v1_2
def p5_firstOf (v0 : Int32) : Option (Int32) := (os (p5_firstOf_L2 v0 FU (0 : Int32)) (fun r_x2 => some r_x2) (fun _ => p5_firstOf_J25))
set_option maxHeartbeats 4000000 in
set_option maxRecDepth 100000 in
theorem c_X5_firstOf (v0 : Int32) (r9 : Int32) (hf : p5_firstOf v0 = some r9) : gM l dC dI cI cJ cZ yX5_firstOf cX5_firstOf 2 (some .int) 1 20 [.int v0] [] [] (some (.int r9)) := by
  refine g_start (own := RX5) (by decide +kernel) rfl (Nat.le_of_ble_eq_true rfl) ?_
  intro p e s m below meth c A ls S hr hlocks hE hP hD hS hA hl hin
  have hx := S.1
  have hb := S.2.1
  have hml := S.2.2.1
  have hown := S.2.2.2.1
  have htg : ∀ w ∈ gw, w.before ([.int v0] : List Value).toArray s = true := fun w h => S.2.2.2.2 w (List.mem_cons_of_mem _ h)
  have hl : lv_has ls 2 [(0, .int v0)] := hl
  have hS0 := hS
  obtain ⟨H, hH⟩ : ∃ H, H = s.heap := ⟨_, rfl⟩
  obtain ⟨locs, hlc⟩ : ∃ locs : List Loc, locs = [] := ⟨_, rfl⟩
  have hS : va_S A s.heap H locs := by rw [hH, hlc]; exact hS0
  have hP : va_P (dC, dI) vwCl [] H := by rw [hH]; exact hP
  suffices hgo : W p l e ({ frames := 1, cells := 0, slots := 0, locals := 20 }) s m ([.int v0] : List Value).toArray below meth c H locs 0 0 (MQ below (gQ dC dI (some (.int r9)) A []) ([.int v0] : List Value).toArray s 0 0 A) (F0 m 0 ls []) by rw [hH, hlc] at hgo; exact hgo
  rw [p5_firstOf] at hf
  have J25 : ∀  (H : Heap) (locs : List Loc) (ls : Array Slot), p5_firstOf_J25  = some r9 → va_P (dC, dI) vwCl [] H → va_D A [] → va_S A s.heap H locs → lv_has ls 2 [] → W p l e ({ frames := 1, cells := 0, slots := 0, locals := 20 }) s m ([.int v0] : List Value).toArray below meth c H locs 0 0 (MQ below (gQ dC dI (some (.int r9)) A []) ([.int v0] : List Value).toArray s 0 0 A) (F0 m 25 ls []) := by
    intro  H locs ls hf hP hD hS hl
    rw [p5_firstOf_J25] at hf
    refine lv_iconst (v := -1) hx hb dX5_firstOf_25 (by decide) ?_
    cases hf
    exact g_iret S hr hlocks hP hD hS dX5_firstOf_26
  refine lv_iconst (v := 0) hx hb dX5_firstOf_0 (by decide) ?_
  refine lv_istore_n (lv' := [(1, .int (0 : Int32)), (0, .int v0)]) hx hb dX5_firstOf_1 rfl hl (by decide) rfl (fun ls hl => ?_)
  have K2 : ∀ (n2 : Nat) (v1_2 : Int32) (ex2 : (Int32) ⊕ (Unit)) (H : Heap) (locs : List Loc) (ls : Array Slot), p5_firstOf_L2 v0 n2 v1_2 = some ex2 → oc ex2 (fun r_x2 => some r_x2) (fun _ => p5_firstOf_J25) = some r9 → va_P (dC, dI) vwCl [] H → va_D A [] → va_S A s.heap H locs → lv_has ls 2 [(0, .int v0), (1, .int v1_2)] → W p l e ({ frames := 1, cells := 0, slots := 0, locals := 20 }) s m ([.int v0] : List Value).toArray below meth c H locs 0 0 (MQ below (gQ dC dI (some (.int r9)) A []) ([.int v0] : List Value).toArray s 0 0 A) (F0 m 2 ls []) := by
    intro n2
    induction n2 with
    | zero => intro v1_2 ex2 H locs ls hf; rw [p5_firstOf_L2] at hf; cases hf
    | succ n2 ih2 =>
      intro v1_2 ex2 H locs ls hf hk2 hP hD hS hl
      rw [p5_firstOf_L2, p5_firstOf_L2_B] at hf
      refine lv_iload_n hx hb dX5_firstOf_2 rfl (lv_at hl 1 rfl) ?_
      refine lv_bipush (v := 16) hx hb dX5_firstOf_3 (by decide) ?_
      refine lv_icmp_ge (tgt := 25) hx hb dX5_firstOf_5 (by decide) (fun h9 => ?_) (fun h9 => ?_)
      · have hf := itt h9 hf
        cases hf
        have hf := hk2
        dsimp only [oc] at hf
        exact J25 H locs ls hf hP hD hS (lv_sub hl [] rfl)
      · have hf := itf h9 hf
        refine lv_iload_n hx hb dX5_firstOf_8 rfl (lv_at hl 0 rfl) ?_
        refine lv_iload_n hx hb dX5_firstOf_9 rfl (lv_at hl 1 rfl) ?_
        refine gcSN (index := 76) (host := "FamilyChart") S hE (c_X9_bit v1_2 (p9_bit v1_2) rfl) mX9_bit nw31 ⟨Nat.le_of_ble_eq_true rfl, Nat.le_of_ble_eq_true rfl⟩ hP hD hS hA ⟨Nat.zero_le _, Nat.zero_le _⟩ (wr := []) [] [] rfl rfl rfl rfl (by decide) (As := [.int v1_2]) (rest := [.int v0]) rfl hl.1 rfl (Nat.le_of_ble_eq_true rfl) dX5_firstOf_10 (fun H locs hP hD hS => ?_)
        refine W.eq (g2 := F0 m 13 ls [.int (p9_bit v1_2), .int v0]) rfl ?_
        have hP : va_P (dC, dI) vwCl [] H := hP
        have hD : va_D A [] := hD
        refine lv_iand hx hb dX5_firstOf_13 ?_
        refine lv_if_eq (tgt := 19) hx hb dX5_firstOf_14 (by decide) (fun h9 => ?_) (fun h9 => ?_)
        · have hf := itt h9 hf
          obtain ⟨t19, h9⟩ : ∃ z : Int32, z = (v1_2 + (1 : Int32)) := ⟨_, rfl⟩
          have hf := lb_e h9 hf
          refine lv_iinc (v := t19) (lv' := [(1, .int t19), (0, .int v0)]) hx hb dX5_firstOf_19 hl (k := 1) rfl (by rw [h9]; rfl) (by decide) rfl (fun ls hl => ?_)
          refine lv_goto (tgt := 2) hx hb dX5_firstOf_22 (by decide) ?_
          exact ih2 t19 ex2 H locs ls hf hk2 hP hD hS (lv_sub hl [1, 0] rfl)
        · have hf := itf h9 hf
          refine lv_iload_n hx hb dX5_firstOf_17 rfl (lv_at hl 1 rfl) ?_
          cases hf
          have hf := hk2
          dsimp only [oc] at hf
          cases hf
          exact g_iret S hr hlocks hP hD hS dX5_firstOf_18
  obtain ⟨ex, h9, hf⟩ := os_s hf
  exact K2 FU (0 : Int32) ex H locs ls h9 hf hP hD hS (lv_sub hl [1, 0] rfl)
def p5_everybody (f_personCount : Int32) : Int32 := (((1 : Int32) <<< (f_personCount &&& 31)) - (1 : Int32))
set_option maxHeartbeats 4000000 in
set_option maxRecDepth 100000 in
theorem c_X5_everybody (a_f a_f_letters a_f_letterCount a_f_personYear a_f_parentUnion a_f_firstPartner a_f_secondPartner a_f_unionYear a_f_generation a_f_ancestorMask a_f_level a_f_referenced a_q a_i a_q_leftValues a_q_rightValues a_q_properties : Nat) (f_personCount : Int32) (f_unionCount : Int32) (f_rowCount : Int32) (r9 : Int32) (hf : p5_everybody f_personCount = r9) : gM l dC dI cI cJ cZ yX5_everybody cX5_everybody 1 (some .int) 0 0 [.ref a_q] [(a_f, .inr (1, [.ref a_f_letters, .ref a_f_letterCount, .ref a_f_personYear, .ref a_f_parentUnion, .ref a_f_firstPartner, .ref a_f_secondPartner, .ref a_f_unionYear, .ref a_f_generation, .ref a_f_ancestorMask, .ref a_f_level, .ref a_f_referenced, .int f_personCount, .int f_unionCount, .int f_rowCount])), (a_q, .inr (5, [.ref a_i, .ref a_f, .ref a_q_leftValues, .ref a_q_rightValues, .ref a_q_properties]))] [(a_f, .inr (1, [.ref a_f_letters, .ref a_f_letterCount, .ref a_f_personYear, .ref a_f_parentUnion, .ref a_f_firstPartner, .ref a_f_secondPartner, .ref a_f_unionYear, .ref a_f_generation, .ref a_f_ancestorMask, .ref a_f_level, .ref a_f_referenced, .int f_personCount, .int f_unionCount, .int f_rowCount])), (a_q, .inr (5, [.ref a_i, .ref a_f, .ref a_q_leftValues, .ref a_q_rightValues, .ref a_q_properties]))] (some (.int r9)) := by
  refine g_start (own := RX5) (by decide +kernel) rfl (Nat.le_of_ble_eq_true rfl) ?_
  intro p e s m below meth c A ls S hr hlocks hE hP hD hS hA hl hin
  have hx := S.1
  have hb := S.2.1
  have hml := S.2.2.1
  have hown := S.2.2.2.1
  have htg : ∀ w ∈ gw, w.before ([.ref a_q] : List Value).toArray s = true := fun w h => S.2.2.2.2 w (List.mem_cons_of_mem _ h)
  have hl : lv_has ls 1 [(0, .ref a_q)] := hl
  have hS0 := hS
  obtain ⟨H, hH⟩ : ∃ H, H = s.heap := ⟨_, rfl⟩
  obtain ⟨locs, hlc⟩ : ∃ locs : List Loc, locs = [] := ⟨_, rfl⟩
  have hS : va_S A s.heap H locs := by rw [hH, hlc]; exact hS0
  have hP : va_P (dC, dI) vwCl [(a_f, .inr (1, [.ref a_f_letters, .ref a_f_letterCount, .ref a_f_personYear, .ref a_f_parentUnion, .ref a_f_firstPartner, .ref a_f_secondPartner, .ref a_f_unionYear, .ref a_f_generation, .ref a_f_ancestorMask, .ref a_f_level, .ref a_f_referenced, .int f_personCount, .int f_unionCount, .int f_rowCount])), (a_q, .inr (5, [.ref a_i, .ref a_f, .ref a_q_leftValues, .ref a_q_rightValues, .ref a_q_properties]))] H := by rw [hH]; exact hP
  suffices hgo : W p l e ({ frames := 0, cells := 0, slots := 0, locals := 0 }) s m ([.ref a_q] : List Value).toArray below meth c H locs 0 0 (MQ below (gQ dC dI (some (.int r9)) A [(a_f, .inr (1, [.ref a_f_letters, .ref a_f_letterCount, .ref a_f_personYear, .ref a_f_parentUnion, .ref a_f_firstPartner, .ref a_f_secondPartner, .ref a_f_unionYear, .ref a_f_generation, .ref a_f_ancestorMask, .ref a_f_level, .ref a_f_referenced, .int f_personCount, .int f_unionCount, .int f_rowCount])), (a_q, .inr (5, [.ref a_i, .ref a_f, .ref a_q_leftValues, .ref a_q_rightValues, .ref a_q_properties]))]) ([.ref a_q] : List Value).toArray s 0 0 A) (F0 m 0 ls []) by rw [hH, hlc] at hgo; exact hgo
  rw [p5_everybody] at hf
  refine lv_iconst (v := 1) hx hb dX5_everybody_0 (by decide) ?_
  refine lv_aload_n hx hb dX5_everybody_1 rfl (lv_at hl 0 rfl) ?_
  refine va_get (D := (dC, dI)) (ci := 5) (v := .ref a_f) (C := RX5) (T := TX5) (N := 5) hx hb htg inX5 hown hE.1 hP 1 rfl rfl 1 (by decide) (htg _ tw329) (fun _ h9 => h9) rfl dX5_everybody_2 ?_
  refine va_get (D := (dC, dI)) (ci := 1) (v := .int f_personCount) (C := RX1) (T := TX1) (N := 14) hx hb htg inX1 hown hE.1 hP 0 rfl rfl 11 (by decide) (htg _ tw132) (fun _ h9 => h9) rfl dX5_everybody_5 ?_
  refine lv_ishl hx hb dX5_everybody_8 ?_
  refine lv_iconst (v := 1) hx hb dX5_everybody_9 (by decide) ?_
  refine lv_isub hx hb dX5_everybody_10 ?_
  cases hf
  exact g_iret S hr hlocks hP hD hS dX5_everybody_11
def p5_holds (v0 : Int32) (v1 : Int32) (v2 : Int32) : Bool := (if v1 = (60 : Int32) then (if v2 ≤ v0 then false else true) else (if v1 = (62 : Int32) then (if v0 ≤ v2 then false else true) else (if v0 = v2 then true else false)))
set_option maxHeartbeats 4000000 in
set_option maxRecDepth 100000 in
theorem c_X5_holds (v0 : Int32) (v1 : Int32) (v2 : Int32) (r9 : Bool) (hf : p5_holds v0 v1 v2 = r9) : gM l dC dI cI cJ cZ yX5_holds cX5_holds 3 (some .boolean) 0 0 [.int v0, .int v1, .int v2] [] [] (some (.int (bI r9))) := by
  refine g_start (own := RX5) (by decide +kernel) rfl (Nat.le_of_ble_eq_true rfl) ?_
  intro p e s m below meth c A ls S hr hlocks hE hP hD hS hA hl hin
  have hx := S.1
  have hb := S.2.1
  have hml := S.2.2.1
  have hown := S.2.2.2.1
  have htg : ∀ w ∈ gw, w.before ([.int v0, .int v1, .int v2] : List Value).toArray s = true := fun w h => S.2.2.2.2 w (List.mem_cons_of_mem _ h)
  have hl : lv_has ls 3 [(0, .int v0), (1, .int v1), (2, .int v2)] := hl
  have hS0 := hS
  obtain ⟨H, hH⟩ : ∃ H, H = s.heap := ⟨_, rfl⟩
  obtain ⟨locs, hlc⟩ : ∃ locs : List Loc, locs = [] := ⟨_, rfl⟩
  have hS : va_S A s.heap H locs := by rw [hH, hlc]; exact hS0
  have hP : va_P (dC, dI) vwCl [] H := by rw [hH]; exact hP
  suffices hgo : W p l e ({ frames := 0, cells := 0, slots := 0, locals := 0 }) s m ([.int v0, .int v1, .int v2] : List Value).toArray below meth c H locs 0 0 (MQ below (gQ dC dI (some (.int (bI r9))) A []) ([.int v0, .int v1, .int v2] : List Value).toArray s 0 0 A) (F0 m 0 ls []) by rw [hH, hlc] at hgo; exact hgo
  rw [p5_holds] at hf
  refine lv_iload_n hx hb dX5_holds_0 rfl (lv_at hl 1 rfl) ?_
  by_cases h9 : v1 = (60 : Int32)
  · have hf := itt h9 hf
    have q9 : (v1).toInt = 60 := by rw [h9]; decide
    refine lv_lookup (tgt := 28) hx hb dX5_holds_1 (by decide) (by first | (rw [q9]; rfl) | rw [q9]) (by decide) ?_
    refine lv_iload_n hx hb dX5_holds_28 rfl (lv_at hl 0 rfl) ?_
    refine lv_iload_n hx hb dX5_holds_29 rfl (lv_at hl 2 rfl) ?_
    refine lv_icmp_ge (tgt := 37) hx hb dX5_holds_30 (by decide) (fun h9 => ?_) (fun h9 => ?_)
    · have hf := itt h9 hf
      refine lv_iconst (v := 0) hx hb dX5_holds_37 (by decide) ?_
      cases hf
      exact g_zret S hr (nar_bI false) hlocks hP hD hS dX5_holds_38
    · have hf := itf h9 hf
      refine lv_iconst (v := 1) hx hb dX5_holds_33 (by decide) ?_
      refine lv_goto (tgt := 38) hx hb dX5_holds_34 (by decide) ?_
      cases hf
      exact g_zret S hr (nar_bI true) hlocks hP hD hS dX5_holds_38
  · have hf := itf h9 hf
    have q160 : (v1).toInt ≠ 60 := fun q => h9 (Int32.toInt_inj.mp (by rw [q]; decide))
    by_cases h9 : v1 = (62 : Int32)
    · have hf := itt h9 hf
      have q9 : (v1).toInt = 62 := by rw [h9]; decide
      refine lv_lookup (tgt := 39) hx hb dX5_holds_1 (by decide) (by first | (rw [q9]; rfl) | rw [q9]) (by decide) ?_
      refine lv_iload_n hx hb dX5_holds_39 rfl (lv_at hl 0 rfl) ?_
      refine lv_iload_n hx hb dX5_holds_40 rfl (lv_at hl 2 rfl) ?_
      refine lv_icmp_le (tgt := 48) hx hb dX5_holds_41 (by decide) (fun h9 => ?_) (fun h9 => ?_)
      · have hf := itt h9 hf
        refine lv_iconst (v := 0) hx hb dX5_holds_48 (by decide) ?_
        cases hf
        exact g_zret S hr (nar_bI false) hlocks hP hD hS dX5_holds_49
      · have hf := itf h9 hf
        refine lv_iconst (v := 1) hx hb dX5_holds_44 (by decide) ?_
        refine lv_goto (tgt := 49) hx hb dX5_holds_45 (by decide) ?_
        cases hf
        exact g_zret S hr (nar_bI true) hlocks hP hD hS dX5_holds_49
    · have hf := itf h9 hf
      have q162 : (v1).toInt ≠ 62 := fun q => h9 (Int32.toInt_inj.mp (by rw [q]; decide))
      refine lv_lookup (tgt := 50) (off := 49) hx hb dX5_holds_1 (by decide) (by simp [Op.lookupswitch.offset, Ne.symm q160, Ne.symm q162]) (by decide) ?_
      refine lv_iload_n hx hb dX5_holds_50 rfl (lv_at hl 0 rfl) ?_
      refine lv_iload_n hx hb dX5_holds_51 rfl (lv_at hl 2 rfl) ?_
      refine lv_icmp_ne (tgt := 59) hx hb dX5_holds_52 (by decide) (fun h9 => ?_) (fun h9 => ?_)
      · have hf := itf h9 hf
        refine lv_iconst (v := 0) hx hb dX5_holds_59 (by decide) ?_
        cases hf
        exact g_zret S hr (nar_bI false) hlocks hP hD hS dX5_holds_60
      · have hf := itt h9 hf
        refine lv_iconst (v := 1) hx hb dX5_holds_55 (by decide) ?_
        refine lv_goto (tgt := 60) hx hb dX5_holds_56 (by decide) ?_
        cases hf
        exact g_zret S hr (nar_bI true) hlocks hP hD hS dX5_holds_60
def p5_takeProperty_J37 (p2_37 : Nat → Int32) : Option ((Nat → Int32)) := some p2_37
def p5_takeProperty_L2_B (f_personCount : Int32) (n_p2 : Nat) (q_properties : Nat → Int32) (v1 : Int32) (k2 : Int32 → (Nat → Int32) → Option ((Nat → Int32))) (v3_2 : Int32) (p2_2 : Nat → Int32) : Option ((Nat → Int32)) := (if f_personCount ≤ v3_2 then some p2_2 else lb (pPut n_p2 p2_2 v3_2 (pAt 112 q_properties ((v1 * (16 : Int32)) + v3_2))) (fun p2_28 => lb (v3_2 + (1 : Int32)) (fun t31 => (k2 t31 p2_28))))
def p5_takeProperty_L2 (f_personCount : Int32) (n_p2 : Nat) (q_properties : Nat → Int32) (v1 : Int32) : Nat → Int32 → (Nat → Int32) → Option ((Nat → Int32))
  | 0, _, _ => none
  | n+1, v3_2, p2_2 => p5_takeProperty_L2_B f_personCount n_p2 q_properties v1 (p5_takeProperty_L2 f_personCount n_p2 q_properties v1 n) v3_2 p2_2
def p5_takeProperty (n_p2 : Nat) (f_personCount : Int32) (p2 : Nat → Int32) (q_properties : Nat → Int32) (v1 : Int32) : Option ((Nat → Int32)) := (ob (p5_takeProperty_L2 f_personCount n_p2 q_properties v1 FU (0 : Int32) p2) (fun p2_x2 => p5_takeProperty_J37 p2_x2))
set_option maxHeartbeats 4000000 in
set_option maxRecDepth 100000 in
theorem c_X5_takeProperty (a_f a_f_letters a_f_letterCount a_f_personYear a_f_parentUnion a_f_firstPartner a_f_secondPartner a_f_unionYear a_f_generation a_f_ancestorMask a_f_level a_f_referenced a_q a_i a_q_leftValues a_q_rightValues a_q_properties a_p2 : Nat) (f_personCount : Int32) (f_unionCount : Int32) (f_rowCount : Int32) (p2 : Nat → Int32) (q_properties : Nat → Int32) (n_p2 : Nat) (hn_p2 : n_p2 < 2147483648) (v1 : Int32) (p2_9 : Nat → Int32) (hf : p5_takeProperty n_p2 f_personCount p2 q_properties v1 = some p2_9) : gM l dC dI cI cJ cZ yX5_takeProperty cX5_takeProperty 4 none 1 22 [.ref a_q, .int v1, .ref a_p2] [(a_f, .inr (1, [.ref a_f_letters, .ref a_f_letterCount, .ref a_f_personYear, .ref a_f_parentUnion, .ref a_f_firstPartner, .ref a_f_secondPartner, .ref a_f_unionYear, .ref a_f_generation, .ref a_f_ancestorMask, .ref a_f_level, .ref a_f_referenced, .int f_personCount, .int f_unionCount, .int f_rowCount])), (a_q, .inr (5, [.ref a_i, .ref a_f, .ref a_q_leftValues, .ref a_q_rightValues, .ref a_q_properties])), (a_p2, .inl (cI, n_p2, .inl p2)), (a_q_properties, .inl (cI, 112, .inl q_properties))] [(a_f, .inr (1, [.ref a_f_letters, .ref a_f_letterCount, .ref a_f_personYear, .ref a_f_parentUnion, .ref a_f_firstPartner, .ref a_f_secondPartner, .ref a_f_unionYear, .ref a_f_generation, .ref a_f_ancestorMask, .ref a_f_level, .ref a_f_referenced, .int f_personCount, .int f_unionCount, .int f_rowCount])), (a_q, .inr (5, [.ref a_i, .ref a_f, .ref a_q_leftValues, .ref a_q_rightValues, .ref a_q_properties])), (a_p2, .inl (cI, n_p2, .inl p2_9)), (a_q_properties, .inl (cI, 112, .inl q_properties))] none := by
  refine g_start (own := RX5) (by decide +kernel) rfl (Nat.le_of_ble_eq_true rfl) ?_
  intro p e s m below meth c A ls S hr hlocks hE hP hD hS hA hl hin
  have hx := S.1
  have hb := S.2.1
  have hml := S.2.2.1
  have hown := S.2.2.2.1
  have htg : ∀ w ∈ gw, w.before ([.ref a_q, .int v1, .ref a_p2] : List Value).toArray s = true := fun w h => S.2.2.2.2 w (List.mem_cons_of_mem _ h)
  have hl : lv_has ls 4 [(0, .ref a_q), (1, .int v1), (2, .ref a_p2)] := hl
  have hS0 := hS
  obtain ⟨H, hH⟩ : ∃ H, H = s.heap := ⟨_, rfl⟩
  obtain ⟨locs, hlc⟩ : ∃ locs : List Loc, locs = [] := ⟨_, rfl⟩
  have hS : va_S A s.heap H locs := by rw [hH, hlc]; exact hS0
  have hP : va_P (dC, dI) vwCl [(a_f, .inr (1, [.ref a_f_letters, .ref a_f_letterCount, .ref a_f_personYear, .ref a_f_parentUnion, .ref a_f_firstPartner, .ref a_f_secondPartner, .ref a_f_unionYear, .ref a_f_generation, .ref a_f_ancestorMask, .ref a_f_level, .ref a_f_referenced, .int f_personCount, .int f_unionCount, .int f_rowCount])), (a_q, .inr (5, [.ref a_i, .ref a_f, .ref a_q_leftValues, .ref a_q_rightValues, .ref a_q_properties])), (a_p2, .inl (cI, n_p2, .inl p2)), (a_q_properties, .inl (cI, 112, .inl q_properties))] H := by rw [hH]; exact hP
  suffices hgo : W p l e ({ frames := 1, cells := 0, slots := 0, locals := 22 }) s m ([.ref a_q, .int v1, .ref a_p2] : List Value).toArray below meth c H locs 0 0 (MQ below (gQ dC dI none A [(a_f, .inr (1, [.ref a_f_letters, .ref a_f_letterCount, .ref a_f_personYear, .ref a_f_parentUnion, .ref a_f_firstPartner, .ref a_f_secondPartner, .ref a_f_unionYear, .ref a_f_generation, .ref a_f_ancestorMask, .ref a_f_level, .ref a_f_referenced, .int f_personCount, .int f_unionCount, .int f_rowCount])), (a_q, .inr (5, [.ref a_i, .ref a_f, .ref a_q_leftValues, .ref a_q_rightValues, .ref a_q_properties])), (a_p2, .inl (cI, n_p2, .inl p2_9)), (a_q_properties, .inl (cI, 112, .inl q_properties))]) ([.ref a_q, .int v1, .ref a_p2] : List Value).toArray s 0 0 A) (F0 m 0 ls []) by rw [hH, hlc] at hgo; exact hgo
  rw [p5_takeProperty] at hf
  have J37 : ∀ (p2_37 : Nat → Int32) (H : Heap) (locs : List Loc) (ls : Array Slot), p5_takeProperty_J37 p2_37 = some p2_9 → va_P (dC, dI) vwCl [(a_f, .inr (1, [.ref a_f_letters, .ref a_f_letterCount, .ref a_f_personYear, .ref a_f_parentUnion, .ref a_f_firstPartner, .ref a_f_secondPartner, .ref a_f_unionYear, .ref a_f_generation, .ref a_f_ancestorMask, .ref a_f_level, .ref a_f_referenced, .int f_personCount, .int f_unionCount, .int f_rowCount])), (a_q, .inr (5, [.ref a_i, .ref a_f, .ref a_q_leftValues, .ref a_q_rightValues, .ref a_q_properties])), (a_p2, .inl (cI, n_p2, .inl p2_37)), (a_q_properties, .inl (cI, 112, .inl q_properties))] H → va_D A [(a_f, .inr (1, [.ref a_f_letters, .ref a_f_letterCount, .ref a_f_personYear, .ref a_f_parentUnion, .ref a_f_firstPartner, .ref a_f_secondPartner, .ref a_f_unionYear, .ref a_f_generation, .ref a_f_ancestorMask, .ref a_f_level, .ref a_f_referenced, .int f_personCount, .int f_unionCount, .int f_rowCount])), (a_q, .inr (5, [.ref a_i, .ref a_f, .ref a_q_leftValues, .ref a_q_rightValues, .ref a_q_properties])), (a_p2, .inl (cI, n_p2, .inl p2_37)), (a_q_properties, .inl (cI, 112, .inl q_properties))] → va_S A s.heap H locs → lv_has ls 4 [] → W p l e ({ frames := 1, cells := 0, slots := 0, locals := 22 }) s m ([.ref a_q, .int v1, .ref a_p2] : List Value).toArray below meth c H locs 0 0 (MQ below (gQ dC dI none A [(a_f, .inr (1, [.ref a_f_letters, .ref a_f_letterCount, .ref a_f_personYear, .ref a_f_parentUnion, .ref a_f_firstPartner, .ref a_f_secondPartner, .ref a_f_unionYear, .ref a_f_generation, .ref a_f_ancestorMask, .ref a_f_level, .ref a_f_referenced, .int f_personCount, .int f_unionCount, .int f_rowCount])), (a_q, .inr (5, [.ref a_i, .ref a_f, .ref a_q_leftValues, .ref a_q_rightValues, .ref a_q_properties])), (a_p2, .inl (cI, n_p2, .inl p2_9)), (a_q_properties, .inl (cI, 112, .inl q_properties))]) ([.ref a_q, .int v1, .ref a_p2] : List Value).toArray s 0 0 A) (F0 m 37 ls []) := by
    intro p2_37 H locs ls hf hP hD hS hl
    rw [p5_takeProperty_J37] at hf
    cases hf
    exact g_vret S hr hlocks hP hD hS dX5_takeProperty_37
  refine lv_iconst (v := 0) hx hb dX5_takeProperty_0 (by decide) ?_
  refine lv_istore_n (lv' := [(3, .int (0 : Int32)), (0, .ref a_q), (1, .int v1), (2, .ref a_p2)]) hx hb dX5_takeProperty_1 rfl hl (by decide) rfl (fun ls hl => ?_)
  have K2 : ∀ (n2 : Nat) (v3_2 : Int32) (p2_2 : Nat → Int32) (ex2 : (Nat → Int32)) (H : Heap) (locs : List Loc) (ls : Array Slot), p5_takeProperty_L2 f_personCount n_p2 q_properties v1 n2 v3_2 p2_2 = some ex2 → (fun p2_x2 => p5_takeProperty_J37 p2_x2) ex2 = some p2_9 → va_P (dC, dI) vwCl [(a_f, .inr (1, [.ref a_f_letters, .ref a_f_letterCount, .ref a_f_personYear, .ref a_f_parentUnion, .ref a_f_firstPartner, .ref a_f_secondPartner, .ref a_f_unionYear, .ref a_f_generation, .ref a_f_ancestorMask, .ref a_f_level, .ref a_f_referenced, .int f_personCount, .int f_unionCount, .int f_rowCount])), (a_q, .inr (5, [.ref a_i, .ref a_f, .ref a_q_leftValues, .ref a_q_rightValues, .ref a_q_properties])), (a_p2, .inl (cI, n_p2, .inl p2_2)), (a_q_properties, .inl (cI, 112, .inl q_properties))] H → va_D A [(a_f, .inr (1, [.ref a_f_letters, .ref a_f_letterCount, .ref a_f_personYear, .ref a_f_parentUnion, .ref a_f_firstPartner, .ref a_f_secondPartner, .ref a_f_unionYear, .ref a_f_generation, .ref a_f_ancestorMask, .ref a_f_level, .ref a_f_referenced, .int f_personCount, .int f_unionCount, .int f_rowCount])), (a_q, .inr (5, [.ref a_i, .ref a_f, .ref a_q_leftValues, .ref a_q_rightValues, .ref a_q_properties])), (a_p2, .inl (cI, n_p2, .inl p2_2)), (a_q_properties, .inl (cI, 112, .inl q_properties))] → va_S A s.heap H locs → lv_has ls 4 [(0, .ref a_q), (1, .int v1), (2, .ref a_p2), (3, .int v3_2)] → W p l e ({ frames := 1, cells := 0, slots := 0, locals := 22 }) s m ([.ref a_q, .int v1, .ref a_p2] : List Value).toArray below meth c H locs 0 0 (MQ below (gQ dC dI none A [(a_f, .inr (1, [.ref a_f_letters, .ref a_f_letterCount, .ref a_f_personYear, .ref a_f_parentUnion, .ref a_f_firstPartner, .ref a_f_secondPartner, .ref a_f_unionYear, .ref a_f_generation, .ref a_f_ancestorMask, .ref a_f_level, .ref a_f_referenced, .int f_personCount, .int f_unionCount, .int f_rowCount])), (a_q, .inr (5, [.ref a_i, .ref a_f, .ref a_q_leftValues, .ref a_q_rightValues, .ref a_q_properties])), (a_p2, .inl (cI, n_p2, .inl p2_9)), (a_q_properties, .inl (cI, 112, .inl q_properties))]) ([.ref a_q, .int v1, .ref a_p2] : List Value).toArray s 0 0 A) (F0 m 2 ls []) := by
    intro n2
    induction n2 with
    | zero => intro v3_2 p2_2 ex2 H locs ls hf; rw [p5_takeProperty_L2] at hf; cases hf
    | succ n2 ih2 =>
      intro v3_2 p2_2 ex2 H locs ls hf hk2 hP hD hS hl
      rw [p5_takeProperty_L2, p5_takeProperty_L2_B] at hf
      refine lv_iload_n hx hb dX5_takeProperty_2 rfl (lv_at hl 3 rfl) ?_
      refine lv_aload_n hx hb dX5_takeProperty_3 rfl (lv_at hl 0 rfl) ?_
      refine va_get (D := (dC, dI)) (ci := 5) (v := .ref a_f) (C := RX5) (T := TX5) (N := 5) hx hb htg inX5 hown hE.1 hP 1 rfl rfl 1 (by decide) (htg _ tw329) (fun _ h9 => h9) rfl dX5_takeProperty_4 ?_
      refine va_get (D := (dC, dI)) (ci := 1) (v := .int f_personCount) (C := RX1) (T := TX1) (N := 14) hx hb htg inX1 hown hE.1 hP 0 rfl rfl 11 (by decide) (htg _ tw132) (fun _ h9 => h9) rfl dX5_takeProperty_7 ?_
      refine lv_icmp_ge (tgt := 37) hx hb dX5_takeProperty_10 (by decide) (fun h9 => ?_) (fun h9 => ?_)
      · have hf := itt h9 hf
        cases hf
        have hf := hk2
        exact J37 p2_2 H locs ls hf hP hD hS (lv_sub hl [] rfl)
      · have hf := itf h9 hf
        refine lv_aload_n hx hb dX5_takeProperty_13 rfl (lv_at hl 2 rfl) ?_
        refine lv_iload_n hx hb dX5_takeProperty_14 rfl (lv_at hl 3 rfl) ?_
        refine lv_aload_n hx hb dX5_takeProperty_15 rfl (lv_at hl 0 rfl) ?_
        refine va_get (D := (dC, dI)) (ci := 5) (v := .ref a_q_properties) (C := RX5) (T := TX5) (N := 5) hx hb htg inX5 hown hE.1 hP 1 rfl rfl 4 (by decide) (htg _ tw332) (fun _ h9 => h9) rfl dX5_takeProperty_16 ?_
        refine lv_iload_n hx hb dX5_takeProperty_19 rfl (lv_at hl 1 rfl) ?_
        refine lv_bipush (v := 16) hx hb dX5_takeProperty_20 (by decide) ?_
        refine lv_imul hx hb dX5_takeProperty_22 ?_
        refine lv_iload_n hx hb dX5_takeProperty_23 rfl (lv_at hl 3 rfl) ?_
        refine lv_iadd hx hb dX5_takeProperty_24 ?_
        refine gcSN (index := 111) (host := "FamilyChart") S hE (c_X9_at a_q_properties q_properties 112 (Nat.le_of_ble_eq_true rfl) ((v1 * (16 : Int32)) + v3_2) (pAt 112 q_properties ((v1 * (16 : Int32)) + v3_2)) rfl) mX9_at nw29 ⟨Nat.le_of_ble_eq_true rfl, Nat.le_of_ble_eq_true rfl⟩ hP hD hS hA ⟨Nat.zero_le _, Nat.zero_le _⟩ (wr := [(a_f, .inr (1, [.ref a_f_letters, .ref a_f_letterCount, .ref a_f_personYear, .ref a_f_parentUnion, .ref a_f_firstPartner, .ref a_f_secondPartner, .ref a_f_unionYear, .ref a_f_generation, .ref a_f_ancestorMask, .ref a_f_level, .ref a_f_referenced, .int f_personCount, .int f_unionCount, .int f_rowCount])), (a_q, .inr (5, [.ref a_i, .ref a_f, .ref a_q_leftValues, .ref a_q_rightValues, .ref a_q_properties])), (a_p2, .inl (cI, n_p2, .inl p2_2))]) [3] [0, 1, 2] rfl rfl rfl rfl (by decide) (As := [.ref a_q_properties, .int ((v1 * (16 : Int32)) + v3_2)]) (rest := [.int v3_2, .ref a_p2]) rfl hl.1 rfl (Nat.le_of_ble_eq_true rfl) dX5_takeProperty_25 (fun H locs hP hD hS => ?_)
        refine W.eq (g2 := F0 m 28 ls [.int (pAt 112 q_properties ((v1 * (16 : Int32)) + v3_2)), .int v3_2, .ref a_p2]) rfl ?_
        have hP : va_P (dC, dI) vwCl [(a_f, .inr (1, [.ref a_f_letters, .ref a_f_letterCount, .ref a_f_personYear, .ref a_f_parentUnion, .ref a_f_firstPartner, .ref a_f_secondPartner, .ref a_f_unionYear, .ref a_f_generation, .ref a_f_ancestorMask, .ref a_f_level, .ref a_f_referenced, .int f_personCount, .int f_unionCount, .int f_rowCount])), (a_q, .inr (5, [.ref a_i, .ref a_f, .ref a_q_leftValues, .ref a_q_rightValues, .ref a_q_properties])), (a_p2, .inl (cI, n_p2, .inl p2_2)), (a_q_properties, .inl (cI, 112, .inl q_properties))] H := hP
        have hD : va_D A [(a_f, .inr (1, [.ref a_f_letters, .ref a_f_letterCount, .ref a_f_personYear, .ref a_f_parentUnion, .ref a_f_firstPartner, .ref a_f_secondPartner, .ref a_f_unionYear, .ref a_f_generation, .ref a_f_ancestorMask, .ref a_f_level, .ref a_f_referenced, .int f_personCount, .int f_unionCount, .int f_rowCount])), (a_q, .inr (5, [.ref a_i, .ref a_f, .ref a_q_leftValues, .ref a_q_rightValues, .ref a_q_properties])), (a_p2, .inl (cI, n_p2, .inl p2_2)), (a_q_properties, .inl (cI, 112, .inl q_properties))] := hD
        obtain ⟨p2_28, h9⟩ : ∃ z, pPut n_p2 p2_2 v3_2 (pAt 112 q_properties ((v1 * (16 : Int32)) + v3_2)) = z := ⟨_, rfl⟩
        have hf := lb_e h9.symm hf
        refine gcSN (index := 142) (host := "FamilyChart") S hE (c_X9_put a_p2 p2_2 n_p2 hn_p2 v3_2 (pAt 112 q_properties ((v1 * (16 : Int32)) + v3_2)) p2_28 h9) mX9_put nw28 ⟨Nat.le_of_ble_eq_true rfl, Nat.le_of_ble_eq_true rfl⟩ hP hD hS hA ⟨Nat.zero_le _, Nat.zero_le _⟩ (wr := [(a_f, .inr (1, [.ref a_f_letters, .ref a_f_letterCount, .ref a_f_personYear, .ref a_f_parentUnion, .ref a_f_firstPartner, .ref a_f_secondPartner, .ref a_f_unionYear, .ref a_f_generation, .ref a_f_ancestorMask, .ref a_f_level, .ref a_f_referenced, .int f_personCount, .int f_unionCount, .int f_rowCount])), (a_q, .inr (5, [.ref a_i, .ref a_f, .ref a_q_leftValues, .ref a_q_rightValues, .ref a_q_properties])), (a_q_properties, .inl (cI, 112, .inl q_properties))]) [2] [0, 1, 3] rfl rfl rfl rfl (by decide) (As := [.ref a_p2, .int v3_2, .int (pAt 112 q_properties ((v1 * (16 : Int32)) + v3_2))]) (rest := []) rfl hl.1 rfl (Nat.le_of_ble_eq_true rfl) dX5_takeProperty_28 (fun H locs hP hD hS => ?_)
        refine W.eq (g2 := F0 m 31 ls []) rfl ?_
        have hP : va_P (dC, dI) vwCl [(a_f, .inr (1, [.ref a_f_letters, .ref a_f_letterCount, .ref a_f_personYear, .ref a_f_parentUnion, .ref a_f_firstPartner, .ref a_f_secondPartner, .ref a_f_unionYear, .ref a_f_generation, .ref a_f_ancestorMask, .ref a_f_level, .ref a_f_referenced, .int f_personCount, .int f_unionCount, .int f_rowCount])), (a_q, .inr (5, [.ref a_i, .ref a_f, .ref a_q_leftValues, .ref a_q_rightValues, .ref a_q_properties])), (a_q_properties, .inl (cI, 112, .inl q_properties)), (a_p2, .inl (cI, n_p2, .inl p2_28))] H := hP
        have hD : va_D A [(a_f, .inr (1, [.ref a_f_letters, .ref a_f_letterCount, .ref a_f_personYear, .ref a_f_parentUnion, .ref a_f_firstPartner, .ref a_f_secondPartner, .ref a_f_unionYear, .ref a_f_generation, .ref a_f_ancestorMask, .ref a_f_level, .ref a_f_referenced, .int f_personCount, .int f_unionCount, .int f_rowCount])), (a_q, .inr (5, [.ref a_i, .ref a_f, .ref a_q_leftValues, .ref a_q_rightValues, .ref a_q_properties])), (a_q_properties, .inl (cI, 112, .inl q_properties)), (a_p2, .inl (cI, n_p2, .inl p2_28))] := hD
        obtain ⟨t31, h9⟩ : ∃ z : Int32, z = (v3_2 + (1 : Int32)) := ⟨_, rfl⟩
        have hf := lb_e h9 hf
        refine lv_iinc (v := t31) (lv' := [(3, .int t31), (0, .ref a_q), (1, .int v1), (2, .ref a_p2)]) hx hb dX5_takeProperty_31 hl (k := 3) rfl (by rw [h9]; rfl) (by decide) rfl (fun ls hl => ?_)
        refine lv_goto (tgt := 2) hx hb dX5_takeProperty_34 (by decide) ?_
        exact ih2 t31 p2_28 ex2 H locs ls hf hk2 (hP.sub [0, 1, 3, 2] rfl) (hD.sub [0, 1, 3, 2] (by decide) rfl) hS (lv_sub hl [1, 2, 3, 0] rfl)
  obtain ⟨ex, h9, hf⟩ := ob_s hf
  exact K2 FU (0 : Int32) p2 ex H locs ls h9 hf hP hD hS (lv_sub hl [1, 2, 3, 0] rfl)
def p5_noteProperty (q_properties : Nat → Int32) (v1 : Int32) (v2 : Int32) (v3 : Int32) : (Nat → Int32) := lb (pPut 112 q_properties ((v1 * (16 : Int32)) + v2) v3) (fun q_properties_11 => q_properties_11)
set_option maxHeartbeats 4000000 in
set_option maxRecDepth 100000 in
theorem c_X5_noteProperty (a_q a_i a_f a_q_leftValues a_q_rightValues a_q_properties : Nat) (q_properties : Nat → Int32) (v1 : Int32) (v2 : Int32) (v3 : Int32) (q_properties_9 : Nat → Int32) (hf : p5_noteProperty q_properties v1 v2 v3 = q_properties_9) : gM l dC dI cI cJ cZ yX5_noteProperty cX5_noteProperty 4 none 1 22 [.ref a_q, .int v1, .int v2, .int v3] [(a_q, .inr (5, [.ref a_i, .ref a_f, .ref a_q_leftValues, .ref a_q_rightValues, .ref a_q_properties])), (a_q_properties, .inl (cI, 112, .inl q_properties))] [(a_q, .inr (5, [.ref a_i, .ref a_f, .ref a_q_leftValues, .ref a_q_rightValues, .ref a_q_properties])), (a_q_properties, .inl (cI, 112, .inl q_properties_9))] none := by
  refine g_start (own := RX5) (by decide +kernel) rfl (Nat.le_of_ble_eq_true rfl) ?_
  intro p e s m below meth c A ls S hr hlocks hE hP hD hS hA hl hin
  have hx := S.1
  have hb := S.2.1
  have hml := S.2.2.1
  have hown := S.2.2.2.1
  have htg : ∀ w ∈ gw, w.before ([.ref a_q, .int v1, .int v2, .int v3] : List Value).toArray s = true := fun w h => S.2.2.2.2 w (List.mem_cons_of_mem _ h)
  have hl : lv_has ls 4 [(0, .ref a_q), (1, .int v1), (2, .int v2), (3, .int v3)] := hl
  have hS0 := hS
  obtain ⟨H, hH⟩ : ∃ H, H = s.heap := ⟨_, rfl⟩
  obtain ⟨locs, hlc⟩ : ∃ locs : List Loc, locs = [] := ⟨_, rfl⟩
  have hS : va_S A s.heap H locs := by rw [hH, hlc]; exact hS0
  have hP : va_P (dC, dI) vwCl [(a_q, .inr (5, [.ref a_i, .ref a_f, .ref a_q_leftValues, .ref a_q_rightValues, .ref a_q_properties])), (a_q_properties, .inl (cI, 112, .inl q_properties))] H := by rw [hH]; exact hP
  suffices hgo : W p l e ({ frames := 1, cells := 0, slots := 0, locals := 22 }) s m ([.ref a_q, .int v1, .int v2, .int v3] : List Value).toArray below meth c H locs 0 0 (MQ below (gQ dC dI none A [(a_q, .inr (5, [.ref a_i, .ref a_f, .ref a_q_leftValues, .ref a_q_rightValues, .ref a_q_properties])), (a_q_properties, .inl (cI, 112, .inl q_properties_9))]) ([.ref a_q, .int v1, .int v2, .int v3] : List Value).toArray s 0 0 A) (F0 m 0 ls []) by rw [hH, hlc] at hgo; exact hgo
  rw [p5_noteProperty] at hf
  refine lv_aload_n hx hb dX5_noteProperty_0 rfl (lv_at hl 0 rfl) ?_
  refine va_get (D := (dC, dI)) (ci := 5) (v := .ref a_q_properties) (C := RX5) (T := TX5) (N := 5) hx hb htg inX5 hown hE.1 hP 0 rfl rfl 4 (by decide) (htg _ tw332) (fun _ h9 => h9) rfl dX5_noteProperty_1 ?_
  refine lv_iload_n hx hb dX5_noteProperty_4 rfl (lv_at hl 1 rfl) ?_
  refine lv_bipush (v := 16) hx hb dX5_noteProperty_5 (by decide) ?_
  refine lv_imul hx hb dX5_noteProperty_7 ?_
  refine lv_iload_n hx hb dX5_noteProperty_8 rfl (lv_at hl 2 rfl) ?_
  refine lv_iadd hx hb dX5_noteProperty_9 ?_
  refine lv_iload_n hx hb dX5_noteProperty_10 rfl (lv_at hl 3 rfl) ?_
  obtain ⟨q_properties_11, h9⟩ : ∃ z, pPut 112 q_properties ((v1 * (16 : Int32)) + v2) v3 = z := ⟨_, rfl⟩
  have hf := lb_e h9.symm hf
  refine gcSN (index := 142) (host := "FamilyChart") S hE (c_X9_put a_q_properties q_properties 112 (Nat.le_of_ble_eq_true rfl) ((v1 * (16 : Int32)) + v2) v3 q_properties_11 h9) mX9_put nw28 ⟨Nat.le_of_ble_eq_true rfl, Nat.le_of_ble_eq_true rfl⟩ hP hD hS hA ⟨Nat.zero_le _, Nat.zero_le _⟩ (wr := [(a_q, .inr (5, [.ref a_i, .ref a_f, .ref a_q_leftValues, .ref a_q_rightValues, .ref a_q_properties]))]) [1] [0] rfl rfl rfl rfl (by decide) (As := [.ref a_q_properties, .int ((v1 * (16 : Int32)) + v2), .int v3]) (rest := []) rfl hl.1 rfl (Nat.le_of_ble_eq_true rfl) dX5_noteProperty_11 (fun H locs hP hD hS => ?_)
  refine W.eq (g2 := F0 m 14 ls []) rfl ?_
  have hP : va_P (dC, dI) vwCl [(a_q, .inr (5, [.ref a_i, .ref a_f, .ref a_q_leftValues, .ref a_q_rightValues, .ref a_q_properties])), (a_q_properties, .inl (cI, 112, .inl q_properties_11))] H := hP
  have hD : va_D A [(a_q, .inr (5, [.ref a_i, .ref a_f, .ref a_q_leftValues, .ref a_q_rightValues, .ref a_q_properties])), (a_q_properties, .inl (cI, 112, .inl q_properties_11))] := hD
  cases hf
  exact g_vret S hr hlocks hP hD hS dX5_noteProperty_14
end G_29_QueryReader
