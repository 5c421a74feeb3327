section BASE
variable {l : Launch} {dC : Nat → ClassId} {dI : Nat → Nat → Nat} {cI cJ cZ cK : ClassId}
set_option maxHeartbeats 4000000 in
set_option maxRecDepth 100000 in
theorem c_X9_at (a_p0 : Nat) (p0 : Nat → Int32) (n_p0 : Nat) (hn_p0 : n_p0 < 2147483648) (v1 : Int32) (r9 : Int32) (hf : pAt n_p0 p0 v1 = r9) : gM l dC dI cI cJ cZ cK yX9_at cX9_at 2 (some .int) 0 0 [.ref a_p0, .int v1] [(a_p0, .inl (cI, n_p0, .inl p0))] [(a_p0, .inl (cI, n_p0, .inl p0))] (some (.int r9)) := by
  refine g_start (own := RX9) (by decide +kernel) rfl (Nat.le_of_ble_eq_true rfl) ?_
  intro p e s m below meth c A ls S hr hlocks hE hP hD hS hA hl hin
  have hx := S.1
  have hb := S.2.1
  have hl : lv_has ls 2 [(0, .ref a_p0), (1, .int v1)] := hl
  unfold pAt at hf
  refine lv_aload_n hx hb dX9_at_0 rfl (lv_at hl 0 rfl) ?_
  refine lv_ifnull hx hb dX9_at_1 ?_
  refine lv_iload_n hx hb dX9_at_4 rfl (lv_at hl 1 rfl) ?_
  refine lv_if_lt (tgt := 14) hx hb dX9_at_5 (by decide) (fun h9 => ?_) (fun h8 => ?_)
  · rw [if_pos h9] at hf
    subst hf
    refine lv_iconst (v := -1) hx hb dX9_at_14 (by decide) ?_
    refine lv_goto (tgt := 21) hx hb dX9_at_15 (by decide) ?_
    exact g_iret S hr hlocks hP hD hS dX9_at_21
  · rw [if_neg h8] at hf
    refine lv_iload_n hx hb dX9_at_8 rfl (lv_at hl 1 rfl) ?_
    refine lv_aload_n hx hb dX9_at_9 rfl (lv_at hl 0 rfl) ?_
    refine va_alen (v := Int32.ofNat n_p0) hx hb hE.1 hP 0 0 rfl rfl rfl dX9_at_10 ?_
    refine lv_icmp_lt (tgt := 18) hx hb dX9_at_11 (by decide) (fun h9 => ?_) (fun h9 => ?_)
    · rw [if_pos h9] at hf
      subst hf
      refine lv_aload_n hx hb dX9_at_18 rfl (lv_at hl 0 rfl) ?_
      refine lv_iload_n hx hb dX9_at_19 rfl (lv_at hl 1 rfl) ?_
      refine va_iald hx hb hE.1 hP 0 0 rfl rfl (vp_of_lt hn_p0 h8 h9) dX9_at_20 ?_
      exact g_iret S hr hlocks hP hD hS dX9_at_21
    · rw [if_neg h9] at hf
      subst hf
      refine lv_iconst (v := -1) hx hb dX9_at_14 (by decide) ?_
      refine lv_goto (tgt := 21) hx hb dX9_at_15 (by decide) ?_
      exact g_iret S hr hlocks hP hD hS dX9_at_21
set_option maxHeartbeats 4000000 in
set_option maxRecDepth 100000 in
theorem c_X9_put (a_p0 : Nat) (p0 : Nat → Int32) (n_p0 : Nat) (hn_p0 : n_p0 < 2147483648) (v1 v2 : Int32) (p0_9 : Nat → Int32) (hf : pPut n_p0 p0 v1 v2 = p0_9) : gM l dC dI cI cJ cZ cK yX9_put cX9_put 3 none 0 0 [.ref a_p0, .int v1, .int v2] [(a_p0, .inl (cI, n_p0, .inl p0))] [(a_p0, .inl (cI, n_p0, .inl p0_9))] none := by
  refine g_start (own := RX9) (by decide +kernel) rfl (Nat.le_of_ble_eq_true rfl) ?_
  intro p e s m below meth c A ls S hr hlocks hE hP hD hS hA hl hin
  have hx := S.1
  have hb := S.2.1
  have hl : lv_has ls 3 [(0, .ref a_p0), (1, .int v1), (2, .int v2)] := hl
  unfold pPut at hf
  refine lv_aload_n hx hb dX9_put_0 rfl (lv_at hl 0 rfl) ?_
  refine lv_ifnull hx hb dX9_put_1 ?_
  refine lv_iload_n hx hb dX9_put_4 rfl (lv_at hl 1 rfl) ?_
  refine lv_if_lt (tgt := 18) hx hb dX9_put_5 (by decide) (fun h9 => ?_) (fun h8 => ?_)
  · rw [if_pos h9] at hf
    subst hf
    exact g_vret S hr hlocks hP hD hS dX9_put_18
  · rw [if_neg h8] at hf
    refine lv_iload_n hx hb dX9_put_8 rfl (lv_at hl 1 rfl) ?_
    refine lv_aload_n hx hb dX9_put_9 rfl (lv_at hl 0 rfl) ?_
    refine va_alen (v := Int32.ofNat n_p0) hx hb hE.1 hP 0 0 rfl rfl rfl dX9_put_10 ?_
    refine lv_icmp_ge (tgt := 18) hx hb dX9_put_11 (by decide) (fun h9 => ?_) (fun h9 => ?_)
    · rw [if_pos h9] at hf
      subst hf
      exact g_vret S hr hlocks hP hD hS dX9_put_18
    · rw [if_neg h9] at hf
      subst hf
      refine lv_aload_n hx hb dX9_put_14 rfl (lv_at hl 0 rfl) ?_
      refine lv_iload_n hx hb dX9_put_15 rfl (lv_at hl 1 rfl) ?_
      refine lv_iload_n hx hb dX9_put_16 rfl (lv_at hl 2 rfl) ?_
      refine va_iast hx hb hE.1 hP hD hS 0 0 rfl rfl (vp_of_nle hn_p0 h8 h9) dX9_put_17 (fun H locs hP hD hS => ?_)
      exact g_vret S hr hlocks hP hD hS dX9_put_18
end BASE
