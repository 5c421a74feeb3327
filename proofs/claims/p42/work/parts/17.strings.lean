theorem mJ0_length : mV yJ0_length_8abf5 cJ0_length_8abf5 1 (some .int) 0 := ⟨tw634, tw632, tw633, tw13, by decide +kernel, by decide +kernel, by decide +kernel⟩
theorem mJ0_charAt : mV yJ0_charAt_5068e cJ0_charAt_5068e 2 (some .char) 1 := ⟨tw644, tw642, tw643, tw13, by decide +kernel, by decide +kernel, by decide +kernel⟩
theorem mJ0_coder : mV yJ0_coder_7d493 cJ0_coder_7d493 1 (some .byte) 0 := ⟨tw638, tw636, tw637, tw13, by decide +kernel, by decide +kernel, by decide +kernel⟩
theorem mJ0_isLatin1 : mV yJ0_isLatin1_aae02 cJ0_isLatin1_aae02 1 (some .boolean) 0 := ⟨tw648, tw646, tw647, tw13, by decide +kernel, by decide +kernel, by decide +kernel⟩
theorem mJ0_checkIndex : mS yJ0_checkIndex_df160 cJ0_checkIndex_df160 2 none 2 := ⟨tw654, tw653, tw13, by decide +kernel, by decide +kernel, by decide +kernel⟩
theorem mJ1_charAt : mS yJ1_charAt_3b067 cJ1_charAt_3b067 2 (some .char) 2 := ⟨tw651, tw650, tw14, by decide +kernel, by decide +kernel, by decide +kernel⟩
theorem mJ3_checkIndex : mS yJ3_checkIndex_8e157 cJ3_checkIndex_8e157 3 (some .int) 3 := ⟨tw659, tw658, tw15, by decide +kernel, by decide +kernel, by decide +kernel⟩
theorem chv_ok : ∀ w, w < 5 → ∀ k, k < txl w → ((chv w k &&& 255).toUInt32 % 65536).toInt32 = chv w k ∧ narrow .char (.int (chv w k)) = .int (chv w k) := by decide +kernel
theorem txl_lt : ∀ w, w < 5 → txl w < 2147483648 := by decide +kernel
section STRS
variable {l : Launch} {dC : Nat → ClassId} {dI : Nat → Nat → Nat} {cI cJ cZ cK : ClassId} {adK adV : Nat → Nat}
section STRR
variable {p : Program} {e : Env} {R : Room} {s : State} {m : MethodId} {args : Array Value} {below : List Frame} {meth : Method} {c : Code} {H : Heap} {locs : List Loc} {A : Nat → Prop} {yo : MethodName} {cc : ByteArray} {mlo nL pc : Nat} {ro : Option FieldType} {own : String} {ls : Array Slot}
theorem g_nret {v : Int32} {ty : FieldType} {w1 : va_W} (S : CallFix p m c cc nL s args (uws yo cc mlo ro) own) (hr : meth.sig.returnType = some ty) (hn : narrow ty (.int v) = .int v) (hlocks : meth.locks = false) (hP : va_P (dC, dI) vwCl w1 H) (hD : va_D A w1) (hS : va_S A s.heap H locs) (hdg : decode cc pc = .ok (.ireturn, 1)) :
    W p l e R s m args below meth c H locs 0 0 (MQ below (gQ dC dI (some (.int v)) A w1) args s 0 0 A) (F0 m pc ls [.int v]) :=
  W.zret (v := v) S.1 S.2.1 hr hn (fun t ht _ => ⟨⟨rfl, by rw [ht]; exact hP, hD⟩, hS.F ht⟩) hS.2.2 hdg hlocks
theorem gT1.recv {a v : Nat} {byt : List Int32} (h : gT1 a v byt A s s.heap) (hS : va_S A s.heap H locs) : ∃ cell : Cell, H[a]? = some cell ∧ cell.vm.isStatics = false ∧ s.vm.findClass "java/lang/String" = some cell.cls := by
  obtain ⟨cell, h1, h2, h3, -⟩ := h.1.kept hS.2.1
  exact ⟨cell, h1, h2, h3⟩
end STRR
set_option maxHeartbeats 4000000 in
set_option maxRecDepth 100000 in
theorem c_J0_coder (w : Nat) (hw : w < 5) : gMH l dC dI cI cJ cZ cK adK adV yJ0_coder_7d493 cJ0_coder_7d493 1 (some .byte) 0 0 [.ref (adK w)] [] [] (some (.int 0)) := by
  refine g_startH (own := RJ0) (by decide +kernel) rfl (Nat.le_of_ble_eq_true rfl) ?_
  intro p e s m below meth c A ls S hr hlocks hE hG hP hD hS hA hl hin
  have hx := S.1
  have hb := S.2.1
  have hml := S.2.2.1
  have hown := S.2.2.2.1
  have htg : ∀ z ∈ gw, z.before ([.ref (adK w)] : List Value).toArray s = true := fun w h => S.2.2.2.2 w (List.mem_cons_of_mem _ h)
  have hl : lv_has ls 1 [(0, .ref (adK w))] := hl
  have hT := hG.2.2.2.2.1 w hw
  refine va_gets hx hb hG.2.2.2.2.2.1 hS hown (htg _ tw639) (fun _ h9 => h9) dJ0_coder_7d493_0 ?_
  refine lv_if_eq (tgt := 13) hx hb dJ0_coder_7d493_3 (by decide) (fun h9 => absurd h9 (by decide)) (fun h9 => ?_)
  refine lv_aload_n hx hb dJ0_coder_7d493_6 rfl (lv_at hl 0 rfl) ?_
  refine vk_getf hx hb hT.2.1 hS hown (htg _ tw1374) (fun _ h9 => h9) dJ0_coder_7d493_7 ?_
  refine lv_goto (tgt := 14) hx hb dJ0_coder_7d493_10 (by decide) ?_
  exact g_nret S hr rfl hlocks hP hD hS dJ0_coder_7d493_14
set_option maxHeartbeats 4000000 in
set_option maxRecDepth 100000 in
theorem c_J0_isLatin1 (w : Nat) (hw : w < 5) : gMH l dC dI cI cJ cZ cK adK adV yJ0_isLatin1_aae02 cJ0_isLatin1_aae02 1 (some .boolean) 0 0 [.ref (adK w)] [] [] (some (.int 1)) := by
  refine g_startH (own := RJ0) (by decide +kernel) rfl (Nat.le_of_ble_eq_true rfl) ?_
  intro p e s m below meth c A ls S hr hlocks hE hG hP hD hS hA hl hin
  have hx := S.1
  have hb := S.2.1
  have hml := S.2.2.1
  have hown := S.2.2.2.1
  have htg : ∀ z ∈ gw, z.before ([.ref (adK w)] : List Value).toArray s = true := fun w h => S.2.2.2.2 w (List.mem_cons_of_mem _ h)
  have hl : lv_has ls 1 [(0, .ref (adK w))] := hl
  have hT := hG.2.2.2.2.1 w hw
  refine va_gets hx hb hG.2.2.2.2.2.1 hS hown (htg _ tw639) (fun _ h9 => h9) dJ0_isLatin1_aae02_0 ?_
  refine lv_if_eq (tgt := 17) hx hb dJ0_isLatin1_aae02_3 (by decide) (fun h9 => absurd h9 (by decide)) (fun h9 => ?_)
  refine lv_aload_n hx hb dJ0_isLatin1_aae02_6 rfl (lv_at hl 0 rfl) ?_
  refine vk_getf hx hb hT.2.1 hS hown (htg _ tw1374) (fun _ h9 => h9) dJ0_isLatin1_aae02_7 ?_
  refine lv_if_ne (tgt := 17) hx hb dJ0_isLatin1_aae02_10 (by decide) (fun h9 => absurd rfl h9) (fun h9 => ?_)
  refine lv_iconst (v := 1) hx hb dJ0_isLatin1_aae02_13 (by decide) ?_
  refine lv_goto (tgt := 18) hx hb dJ0_isLatin1_aae02_14 (by decide) ?_
  exact g_nret S hr rfl hlocks hP hD hS dJ0_isLatin1_aae02_18
set_option maxHeartbeats 4000000 in
set_option maxRecDepth 100000 in
theorem c_J0_length (w : Nat) (hw : w < 5) : gMH l dC dI cI cJ cZ cK adK adV yJ0_length_8abf5 cJ0_length_8abf5 1 (some .int) 1 20 [.ref (adK w)] [] [] (some (.int (Int32.ofNat (txl w)))) := by
  refine g_startH (own := RJ0) (by decide +kernel) rfl (Nat.le_of_ble_eq_true rfl) ?_
  intro p e s m below meth c A ls S hr hlocks hE hG hP hD hS hA hl hin
  have hx := S.1
  have hb := S.2.1
  have hml := S.2.2.1
  have hown := S.2.2.2.1
  have htg : ∀ z ∈ gw, z.before ([.ref (adK w)] : List Value).toArray s = true := fun w h => S.2.2.2.2 w (List.mem_cons_of_mem _ h)
  have hl : lv_has ls 1 [(0, .ref (adK w))] := hl
  have hT := hG.2.2.2.2.1 w hw
  refine lv_aload_n hx hb dJ0_length_8abf5_0 rfl (lv_at hl 0 rfl) ?_
  refine vk_getf hx hb hT.2.2.1 hS hown (htg _ tw1373) (fun _ h9 => h9) dJ0_length_8abf5_1 ?_
  refine va_tlen (v := Int32.ofNat (txl w)) hx hb hT.2.2.2 hS rfl dJ0_length_8abf5_4 ?_
  refine lv_aload_n hx hb dJ0_length_8abf5_5 rfl (lv_at hl 0 rfl) ?_
  refine gcRH (index := 335) S hE hG (c_J0_coder w hw) mJ0_coder tw635 ⟨Nat.le_of_ble_eq_true rfl, Nat.le_of_ble_eq_true rfl⟩ hP hD hS hA ⟨Nat.zero_le _, Nat.zero_le _⟩ (hT.recv hS) (wr := []) [] [] rfl rfl rfl rfl (by decide) (As := []) (rest := [.int (Int32.ofNat (txl w))]) rfl hl.1 rfl (Nat.le_of_ble_eq_true rfl) dJ0_length_8abf5_6 (fun H locs hP hD hS => ?_)
  refine W.eq (g2 := F0 m 9 ls [.int 0, .int (Int32.ofNat (txl w))]) rfl ?_
  refine lv_ishr hx hb dJ0_length_8abf5_9 ?_
  rw [sb_shr0]
  exact g_iret S hr hlocks hP hD hS dJ0_length_8abf5_10
set_option maxHeartbeats 4000000 in
set_option maxRecDepth 100000 in
theorem c_J3_checkIndex_n (i n : Int32) (h0 : ¬ i < 0) (h1 : i < n) : gMH l dC dI cI cJ cZ cK adK adV yJ3_checkIndex_8e157 cJ3_checkIndex_8e157 3 (some .int) 0 0 [.int i, .int n, .null] [] [] (some (.int i)) := by
  refine g_startH (own := RJ3) (by decide +kernel) rfl (Nat.le_of_ble_eq_true rfl) ?_
  intro p e s m below meth c A ls S hr hlocks hE hG hP hD hS hA hl hin
  have hx := S.1
  have hb := S.2.1
  have hml := S.2.2.1
  have hown := S.2.2.2.1
  have htg : ∀ z ∈ gw, z.before ([.int i, .int n, .null] : List Value).toArray s = true := fun w h => S.2.2.2.2 w (List.mem_cons_of_mem _ h)
  have hl : lv_has ls 3 [(0, .int i), (1, .int n), (2, .null)] := hl
  refine lv_iload_n hx hb dJ3_checkIndex_8e157_0 rfl (lv_at hl 0 rfl) ?_
  refine lv_if_lt (tgt := 9) hx hb dJ3_checkIndex_8e157_1 (by decide) (fun h9 => absurd h9 h0) (fun h9 => ?_)
  refine lv_iload_n hx hb dJ3_checkIndex_8e157_4 rfl (lv_at hl 0 rfl) ?_
  refine lv_iload_n hx hb dJ3_checkIndex_8e157_5 rfl (lv_at hl 1 rfl) ?_
  refine lv_icmp_lt (tgt := 16) hx hb dJ3_checkIndex_8e157_6 (by decide) (fun h9 => ?_) (fun h9 => absurd h1 h9)
  refine lv_iload_n hx hb dJ3_checkIndex_8e157_16 rfl (lv_at hl 0 rfl) ?_
  exact g_iret S hr hlocks hP hD hS dJ3_checkIndex_8e157_17
set_option maxHeartbeats 4000000 in
set_option maxRecDepth 100000 in
theorem c_J3_checkIndex_r (t : Nat) (i n : Int32) (h0 : ¬ i < 0) (h1 : i < n) : gMH l dC dI cI cJ cZ cK adK adV yJ3_checkIndex_8e157 cJ3_checkIndex_8e157 3 (some .int) 0 0 [.int i, .int n, .ref t] [] [] (some (.int i)) := by
  refine g_startH (own := RJ3) (by decide +kernel) rfl (Nat.le_of_ble_eq_true rfl) ?_
  intro p e s m below meth c A ls S hr hlocks hE hG hP hD hS hA hl hin
  have hx := S.1
  have hb := S.2.1
  have hml := S.2.2.1
  have hown := S.2.2.2.1
  have htg : ∀ z ∈ gw, z.before ([.int i, .int n, .ref t] : List Value).toArray s = true := fun w h => S.2.2.2.2 w (List.mem_cons_of_mem _ h)
  have hl : lv_has ls 3 [(0, .int i), (1, .int n), (2, .ref t)] := hl
  refine lv_iload_n hx hb dJ3_checkIndex_8e157_0 rfl (lv_at hl 0 rfl) ?_
  refine lv_if_lt (tgt := 9) hx hb dJ3_checkIndex_8e157_1 (by decide) (fun h9 => absurd h9 h0) (fun h9 => ?_)
  refine lv_iload_n hx hb dJ3_checkIndex_8e157_4 rfl (lv_at hl 0 rfl) ?_
  refine lv_iload_n hx hb dJ3_checkIndex_8e157_5 rfl (lv_at hl 1 rfl) ?_
  refine lv_icmp_lt (tgt := 16) hx hb dJ3_checkIndex_8e157_6 (by decide) (fun h9 => ?_) (fun h9 => absurd h1 h9)
  refine lv_iload_n hx hb dJ3_checkIndex_8e157_16 rfl (lv_at hl 0 rfl) ?_
  exact g_iret S hr hlocks hP hD hS dJ3_checkIndex_8e157_17
set_option maxHeartbeats 4000000 in
set_option maxRecDepth 100000 in
theorem c_J0_checkIndex (i n : Int32) (h0 : ¬ i < 0) (h1 : i < n) : gMH l dC dI cI cJ cZ cK adK adV yJ0_checkIndex_df160 cJ0_checkIndex_df160 2 none 1 22 [.int i, .int n] [] [] none := by
  refine g_startH (own := RJ0) (by decide +kernel) rfl (Nat.le_of_ble_eq_true rfl) ?_
  intro p e s m below meth c A ls S hr hlocks hE hG hP hD hS hA hl hin
  have hx := S.1
  have hb := S.2.1
  have hml := S.2.2.1
  have hown := S.2.2.2.1
  have htg : ∀ z ∈ gw, z.before ([.int i, .int n] : List Value).toArray s = true := fun w h => S.2.2.2.2 w (List.mem_cons_of_mem _ h)
  have hl : lv_has ls 2 [(0, .int i), (1, .int n)] := hl
  refine lv_iload_n hx hb dJ0_checkIndex_df160_0 rfl (lv_at hl 0 rfl) ?_
  refine lv_iload_n hx hb dJ0_checkIndex_df160_1 rfl (lv_at hl 1 rfl) ?_
  rcases hG.2.2.2.2.2.2.1 with h8 | ⟨t, h8⟩
  · refine va_gets hx hb h8 hS hown (htg _ tw655) (fun _ h9 => h9) dJ0_checkIndex_df160_2 ?_
    refine gcSH (index := 1059) S hE hG (c_J3_checkIndex_n i n h0 h1) mJ3_checkIndex tw657 ⟨Nat.le_of_ble_eq_true rfl, Nat.le_of_ble_eq_true rfl⟩ hP hD hS hA ⟨Nat.zero_le _, Nat.zero_le _⟩ (wr := []) [] [] rfl rfl rfl rfl (by decide) (As := [.int i, .int n, .null]) (rest := []) rfl hl.1 rfl (Nat.le_of_ble_eq_true rfl) dJ0_checkIndex_df160_5 (fun H locs hP hD hS => ?_)
    refine W.eq (g2 := F0 m 8 ls [.int i]) rfl ?_
    refine lv_pop hx hb dJ0_checkIndex_df160_8 rfl ?_
    exact g_vret S hr hlocks hP hD hS dJ0_checkIndex_df160_9
  · refine va_gets hx hb h8 hS hown (htg _ tw655) (fun _ h9 => h9) dJ0_checkIndex_df160_2 ?_
    refine gcSH (index := 1059) S hE hG (c_J3_checkIndex_r t i n h0 h1) mJ3_checkIndex tw657 ⟨Nat.le_of_ble_eq_true rfl, Nat.le_of_ble_eq_true rfl⟩ hP hD hS hA ⟨Nat.zero_le _, Nat.zero_le _⟩ (wr := []) [] [] rfl rfl rfl rfl (by decide) (As := [.int i, .int n, .ref t]) (rest := []) rfl hl.1 rfl (Nat.le_of_ble_eq_true rfl) dJ0_checkIndex_df160_5 (fun H locs hP hD hS => ?_)
    refine W.eq (g2 := F0 m 8 ls [.int i]) rfl ?_
    refine lv_pop hx hb dJ0_checkIndex_df160_8 rfl ?_
    exact g_vret S hr hlocks hP hD hS dJ0_checkIndex_df160_9
set_option maxHeartbeats 4000000 in
set_option maxRecDepth 100000 in
theorem c_J1_charAt (w : Nat) (hw : w < 5) (i : Int32) (h0 : ¬ i < 0) (h1 : i.toNatClampNeg < txl w) : gMH l dC dI cI cJ cZ cK adK adV yJ1_charAt_3b067 cJ1_charAt_3b067 2 (some .char) 2 43 [.ref (adV w), .int i] [] [] (some (.int (chv w i.toNatClampNeg))) := by
  refine g_startH (own := RJ1) (by decide +kernel) rfl (Nat.le_of_ble_eq_true rfl) ?_
  intro p e s m below meth c A ls S hr hlocks hE hG hP hD hS hA hl hin
  have hx := S.1
  have hb := S.2.1
  have hml := S.2.2.1
  have hown := S.2.2.2.1
  have htg : ∀ z ∈ gw, z.before ([.ref (adV w), .int i] : List Value).toArray s = true := fun w h => S.2.2.2.2 w (List.mem_cons_of_mem _ h)
  have hl : lv_has ls 2 [(0, .ref (adV w)), (1, .int i)] := hl
  have hT := hG.2.2.2.2.1 w hw
  have hlt : i < Int32.ofNat (txl w) := by
    obtain ⟨j, hj, rfl⟩ := nI_of h0
    rw [nI_clamp hj] at h1
    exact nI_lt h1 (txl_lt w hw)
  refine lv_iload_n hx hb dJ1_charAt_3b067_0 rfl (lv_at hl 1 rfl) ?_
  refine lv_aload_n hx hb dJ1_charAt_3b067_1 rfl (lv_at hl 0 rfl) ?_
  refine va_tlen (v := Int32.ofNat (txl w)) hx hb hT.2.2.2 hS rfl dJ1_charAt_3b067_2 ?_
  refine gcSH (index := 9) S hE hG (c_J0_checkIndex i (Int32.ofNat (txl w)) h0 hlt) mJ0_checkIndex tw652 ⟨Nat.le_of_ble_eq_true rfl, Nat.le_of_ble_eq_true rfl⟩ hP hD hS hA ⟨Nat.zero_le _, Nat.zero_le _⟩ (wr := []) [] [] rfl rfl rfl rfl (by decide) (As := [.int i, .int (Int32.ofNat (txl w))]) (rest := []) rfl hl.1 rfl (Nat.le_of_ble_eq_true rfl) dJ1_charAt_3b067_3 (fun H locs hP hD hS => ?_)
  refine W.eq (g2 := F0 m 6 ls []) rfl ?_
  refine lv_aload_n hx hb dJ1_charAt_3b067_6 rfl (lv_at hl 0 rfl) ?_
  refine lv_iload_n hx hb dJ1_charAt_3b067_7 rfl (lv_at hl 1 rfl) ?_
  refine va_tb (v := .int (chv w i.toNatClampNeg)) hx hb hT.2.2.2 hS (fun q => q.elim h0 (fun z => absurd h1 (Nat.not_lt.mpr z))) rfl dJ1_charAt_3b067_8 ?_
  refine lv_sipush (v := 255) hx hb dJ1_charAt_3b067_9 (by decide) ?_
  refine lv_iand hx hb dJ1_charAt_3b067_12 ?_
  refine lv_i2c (v := chv w i.toNatClampNeg) hx hb dJ1_charAt_3b067_13 (chv_ok w hw _ h1).1 ?_
  exact g_nret S hr (chv_ok w hw _ h1).2 hlocks hP hD hS dJ1_charAt_3b067_14
set_option maxHeartbeats 4000000 in
set_option maxRecDepth 100000 in
theorem c_J0_charAt (w : Nat) (hw : w < 5) (i : Int32) (h0 : ¬ i < 0) (h1 : i.toNatClampNeg < txl w) : gMH l dC dI cI cJ cZ cK adK adV yJ0_charAt_5068e cJ0_charAt_5068e 2 (some .char) 3 64 [.ref (adK w), .int i] [] [] (some (.int (chv w i.toNatClampNeg))) := by
  refine g_startH (own := RJ0) (by decide +kernel) rfl (Nat.le_of_ble_eq_true rfl) ?_
  intro p e s m below meth c A ls S hr hlocks hE hG hP hD hS hA hl hin
  have hx := S.1
  have hb := S.2.1
  have hml := S.2.2.1
  have hown := S.2.2.2.1
  have htg : ∀ z ∈ gw, z.before ([.ref (adK w), .int i] : List Value).toArray s = true := fun w h => S.2.2.2.2 w (List.mem_cons_of_mem _ h)
  have hl : lv_has ls 2 [(0, .ref (adK w)), (1, .int i)] := hl
  have hT := hG.2.2.2.2.1 w hw
  refine lv_aload_n hx hb dJ0_charAt_5068e_0 rfl (lv_at hl 0 rfl) ?_
  refine gcRH (index := 492) S hE hG (c_J0_isLatin1 w hw) mJ0_isLatin1 tw645 ⟨Nat.le_of_ble_eq_true rfl, Nat.le_of_ble_eq_true rfl⟩ hP hD hS hA ⟨Nat.zero_le _, Nat.zero_le _⟩ (hT.recv hS) (wr := []) [] [] rfl rfl rfl rfl (by decide) (As := []) (rest := []) rfl hl.1 rfl (Nat.le_of_ble_eq_true rfl) dJ0_charAt_5068e_1 (fun H locs hP hD hS => ?_)
  refine W.eq (g2 := F0 m 4 ls [.int 1]) rfl ?_
  refine lv_if_eq (tgt := 16) hx hb dJ0_charAt_5068e_4 (by decide) (fun h9 => absurd h9 (by decide)) (fun h9 => ?_)
  refine lv_aload_n hx hb dJ0_charAt_5068e_7 rfl (lv_at hl 0 rfl) ?_
  refine vk_getf hx hb hT.2.2.1 hS hown (htg _ tw1373) (fun _ h9 => h9) dJ0_charAt_5068e_8 ?_
  refine lv_iload_n hx hb dJ0_charAt_5068e_11 rfl (lv_at hl 1 rfl) ?_
  refine gcSH (index := 495) S hE hG (c_J1_charAt w hw i h0 h1) mJ1_charAt tw649 ⟨Nat.le_of_ble_eq_true rfl, Nat.le_of_ble_eq_true rfl⟩ hP hD hS hA ⟨Nat.zero_le _, Nat.zero_le _⟩ (wr := []) [] [] rfl rfl rfl rfl (by decide) (As := [.ref (adV w), .int i]) (rest := []) rfl hl.1 rfl (Nat.le_of_ble_eq_true rfl) dJ0_charAt_5068e_12 (fun H locs hP hD hS => ?_)
  refine W.eq (g2 := F0 m 15 ls [.int (chv w i.toNatClampNeg)]) rfl ?_
  exact g_nret S hr (chv_ok w hw _ h1).2 hlocks hP hD hS dJ0_charAt_5068e_15
end STRS
