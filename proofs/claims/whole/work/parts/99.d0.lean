/-! feed -/
def byI (v : Int32) (r : Nat) : Int32 := (v.toUInt32 >>> ((nI (24 - 8 * r)).toUInt32 &&& Int32.toUInt32 31)).toInt32 &&& 255
def bn (v : Int32) (r : Nat) : Nat := (byI v r).toBitVec.toNat
theorem bt_255 (q : Nat) : bt (255 : Int32) q = decide (q < 8) := by
  by_cases hq : q < 32
  · have : ∀ q, q < 32 → bt (255 : Int32) q = decide (q < 8) := by decide +kernel
    exact this q hq
  · rw [bt_big (by omega), decide_eq_false (by omega)]
theorem bt_ushr {v : Int32} {s : UInt32} {k : Nat} (hs : s.toNat % 32 = k) (q : Nat) : bt ((v.toUInt32 >>> s).toInt32) q = bt v (k + q) := by
  show ((v.toUInt32 >>> s).toNat).testBit q = v.toUInt32.toNat.testBit (k + q)
  rw [UInt32.toNat_shiftRight, hs, Nat.testBit_shiftRight]
theorem bt_sshr {v : Int32} {k q : Nat} (h : k + q < 32) : bt (v >>> (nI k &&& 31)) q = bt v (k + q) := by
  unfold bt
  rw [Int32.toBitVec_shiftRight, BitVec.sshiftRight', shr_31 (by omega), BitVec.getLsbD_sshiftRight]
  simp [h]
  omega
theorem bt_byI {v : Int32} {r q : Nat} (hr : r < 4) : bt (byI v r) q = (bt v (24 - 8 * r + q) && decide (q < 8)) := by
  have hs : ((nI (24 - 8 * r)).toUInt32 &&& Int32.toUInt32 31).toNat % 32 = 24 - 8 * r := by
    have : ∀ r, r < 4 → ((nI (24 - 8 * r)).toUInt32 &&& Int32.toUInt32 31).toNat % 32 = 24 - 8 * r := by decide +kernel
    exact this r hr
  unfold byI
  rw [bt_and, bt_ushr hs, bt_255]
theorem byI_sar {v : Int32} {r : Nat} (hr : r < 4) : (v >>> (nI (24 - 8 * r) &&& 31)) &&& 255 = byI v r := bt_ext fun q _ => by
  rw [bt_byI hr, bt_and, bt_255]
  by_cases h : q < 8
  · rw [bt_sshr (by omega)]
  · rw [decide_eq_false h, Bool.and_false, Bool.and_false]
theorem byI_nI {v : Int32} {r : Nat} (hr : r < 4) : bn v r < 256 ∧ byI v r = nI (bn v r) := by
  constructor
  · refine Nat.lt_pow_two_of_testBit (n := 8) _ fun i hi => ?_
    show bt (byI v r) i = false
    rw [bt_byI hr, decide_eq_false (by omega), Bool.and_false]
  · refine Int32.toBitVec_inj.mp (BitVec.eq_of_toNat_eq ?_)
    show _ = (BitVec.ofNat 32 (byI v r).toBitVec.toNat).toNat
    rw [BitVec.toNat_ofNat, Nat.mod_eq_of_lt (byI v r).toBitVec.isLt]
theorem X_append {bs : Nat → Int32} {f : Nat} (hf : f + 4 ≤ 800) (v : Int32) : ∃ bs', p3_append (nI f) bs v = some (bs', nI (f + 4)) ∧ (∀ r, r < 4 → bs' (f + r) = byI v r) ∧ ∀ q, q < f → bs' q = bs q := by
  have hstep : ∀ (r fuel : Nat) (z : Nat → Int32), r < 4 → p3_append_L3 v (fuel + 1) (nI (24 - 8 * r)) z (nI (f + r)) = p3_append_L3 v fuel (nI (24 - 8 * r) + -8) (upd z (f + r) (byI v r)) (nI (f + (r + 1))) := by
    intro r fuel z hr
    rw [p3_append_L3, p3_append_L3_B, if_neg (show ¬ nI (24 - 8 * r) < 0 from nI_pos (by omega)), put_in (by omega) (by omega)]
    simp only [lb_eq]
    rw [show nI (f + r) + 1 = nI (f + (r + 1)) from nI_1 _]
    rfl
  refine ⟨upd (upd (upd (upd bs (f + 0) (byI v 0)) (f + 1) (byI v 1)) (f + 2) (byI v 2)) (f + 3) (byI v 3), ?_, fun r hr => ?_, fun q hq => ?_⟩
  · unfold p3_append
    rw [show FU = 1019 + 1 + 1 + 1 + 1 + 1 from rfl, show (24 : Int32) = nI (24 - 8 * 0) from rfl, show nI f = nI (f + 0) from rfl, hstep 0 _ _ (by omega), show nI (24 - 8 * 0) + -8 = nI (24 - 8 * 1) from by decide, hstep 1 _ _ (by omega), show nI (24 - 8 * 1) + -8 = nI (24 - 8 * 2) from by decide, hstep 2 _ _ (by omega), show nI (24 - 8 * 2) + -8 = nI (24 - 8 * 3) from by decide, hstep 3 _ _ (by omega), p3_append_L3, p3_append_L3_B, if_pos (by decide)]
    rfl
  · have : r = 0 ∨ r = 1 ∨ r = 2 ∨ r = 3 := by omega
    rcases this with rfl | rfl | rfl | rfl
    · rw [upd_ne (by omega), upd_ne (by omega), upd_ne (by omega), upd_eq]
    · rw [upd_ne (by omega), upd_ne (by omega), upd_eq]
    · rw [upd_ne (by omega), upd_eq]
    · rw [upd_eq]
  · rw [upd_ne (by omega), upd_ne (by omega), upd_ne (by omega), upd_ne (by omega)]
def wsel (v1 v2 v3 v4 v5 : Int32) (i : Nat) : Int32 := if i = 0 then v1 else if i = 1 then v2 else if i = 2 then v3 else if i = 3 then v4 else v5
theorem nI_mod4 {v : Nat} (hv : v < 1073741824) : nI v - nI v / 4 * 4 = nI (v % 4) := by
  rw [n4, nI_div hv (by omega), nI_mul, nI_sub (by omega)]
  congr 1
  omega
theorem M_feedL {bf : Nat → Int32} {f : Nat} (hf : f + 20 ≤ 800) (v1 v2 v3 v4 v5 : Int32) :
    ∃ bf', p10_feed_L23 v1 v2 v3 v4 v5 FU 0 bf (nI f) = some (bf', nI (f + 20)) ∧ (∀ j, j < 20 → bf' (f + j) = byI (wsel v1 v2 v3 v4 v5 (j / 4)) (j % 4)) ∧ ∀ q, q < f → bf' q = bf q := by
  obtain ⟨z, e1, h1⟩ := loop_all (fun t i (z : Nat → Int32) => p10_feed_L23 v1 v2 v3 v4 v5 t (nI i) z (nI (f + i))) 20
    (fun i z => (∀ j, j < i → z (f + j) = byI (wsel v1 v2 v3 v4 v5 (j / 4)) (j % 4)) ∧ ∀ q, q < f → z q = bf q) (fun (z : (Nat → Int32) × Int32) => z.2 = nI (f + 20) ∧ (∀ j, j < 20 → z.1 (f + j) = byI (wsel v1 v2 v3 v4 v5 (j / 4)) (j % 4)) ∧ ∀ q, q < f → z.1 q = bf q) (by
      intro t z hz
      refine ⟨(z, nI (f + 20)), ?_, rfl, hz⟩
      try dsimp only
      rw [p10_feed_L23, p10_feed_L23_B, n20, if_pos (nI_le (Nat.le_refl _) (by omega))]) (by
      intro t i z hi hz
      refine ⟨upd z (f + i) (byI (wsel v1 v2 v3 v4 v5 (i / 4)) (i % 4)), ?_, fun j hj => ?_, fun q hq => ?_⟩
      · have hJ : ∀ w, p10_feed_J78 (p10_feed_L23 v1 v2 v3 v4 v5 t) (nI (f + i)) z (nI i) w = p10_feed_L23 v1 v2 v3 v4 v5 t (nI (i + 1)) (upd z (f + i) (byI w (i % 4))) (nI (f + (i + 1))) := by
          intro w
          unfold p10_feed_J78
          rw [gd_in (by omega) (by omega), nI_clamp (by omega), nI_mod4 (by omega), show (24 : Int32) = nI 24 from rfl, n8, nI_mul, nI_sub (by omega), byI_sar (by omega)]
          simp only [lb_eq]
          rw [n1, nI_add, nI_add]
          rfl
        try dsimp only
        rw [p10_feed_L23, p10_feed_L23_B, n20, if_neg (nI_ge hi (by omega))]
        unfold wsel
        rw [show (16 : Int32) = nI 16 from rfl, n12, n8, n4]
        by_cases c4 : 4 ≤ i
        · rw [if_pos (nI_le c4 (by omega)), if_neg (show ¬ i / 4 = 0 by omega)]
          by_cases c8 : 8 ≤ i
          · rw [if_pos (nI_le c8 (by omega)), if_neg (show ¬ i / 4 = 1 by omega)]
            by_cases c12 : 12 ≤ i
            · rw [if_pos (nI_le c12 (by omega)), if_neg (show ¬ i / 4 = 2 by omega)]
              by_cases c16 : 16 ≤ i
              · rw [if_pos (nI_le c16 (by omega)), if_neg (show ¬ i / 4 = 3 by omega)]
                exact hJ v5
              · rw [if_neg (nI_ge (by omega) (by omega)), if_pos (show i / 4 = 3 by omega)]
                exact hJ v4
            · rw [if_neg (nI_ge (by omega) (by omega)), if_pos (show i / 4 = 2 by omega)]
              exact hJ v3
          · rw [if_neg (nI_ge (by omega) (by omega)), if_pos (show i / 4 = 1 by omega)]
            exact hJ v2
        · rw [if_neg (nI_ge (by omega) (by omega)), if_pos (show i / 4 = 0 by omega)]
          exact hJ v1
      · by_cases e : j = i
        · rw [e, upd_eq]
        · rw [upd_ne (by omega)]; exact hz.1 j (by omega)
      · rw [upd_ne (by omega)]; exact hz.2 q hq) FU 0 bf (Nat.zero_le _) (by decide) ⟨fun j hj => absurd hj (Nat.not_lt_zero _), fun _ _ => rfl⟩
  refine ⟨z.1, ?_, h1.2⟩
  have e1' : p10_feed_L23 v1 v2 v3 v4 v5 FU 0 bf (nI f) = some z := e1
  rw [e1', ← h1.1]
theorem gd4 {nL : Nat} {v : Int32} (G : GDV nL v) {α : Type} {k : Option α} : gd (v + 4) nL k = k := by
  obtain ⟨i, h1, h2, rfl⟩ := G
  rw [n4, nI_add, gd_in (by omega) (by omega)]
theorem gd5 {nL : Nat} {v : Int32} (G : GDV nL v) {α : Type} {k : Option α} : gd (v + 5) nL k = k := by
  obtain ⟨i, h1, h2, rfl⟩ := G
  rw [n5, nI_add, gd_in (by omega) (by omega)]
theorem R0 {nL : Nat} {xs : Nat → Int32} {v4 filled bl : Int32} {bs bf : Nat → Int32} (G : GDV nL v4) (HB : BI filled bl bs bf) : ∃ bs' filled' bf' bl' t', pL_0 nL xs v4 filled bs bl bf = some (bs', filled', bf', bl', t') ∧ BI filled' bl' bs' bf' := by
  obtain ⟨B, f, rfl, rfl, H⟩ := HB
  have hf := H.1
  unfold pL_0 p9_feed p10_feed p3_hasRoom
  simp only [gd1 G, gd2 G, gd3 G, gd4 G, gd5 G]
  generalize xs (v4 + 1).toNatClampNeg = w1
  generalize xs (v4 + 2).toNatClampNeg = w2
  generalize xs (v4 + 3).toNatClampNeg = w3
  generalize xs (v4 + 4).toNatClampNeg = w4
  generalize xs (v4 + 5).toNatClampNeg = w5
  rw [n20, n800, nI_add]
  by_cases c : f + 20 ≤ 800
  · rw [if_neg (nI_nlt c (by omega)), cond_true, if_pos (nI_le c (by omega))]
    obtain ⟨b1, e1, h1, k1⟩ := X_append (bs := bs) (f := f) (by omega) w1
    obtain ⟨b2, e2, h2, k2⟩ := X_append (bs := b1) (f := f + 4) (by omega) w2
    obtain ⟨b3, e3, h3, k3⟩ := X_append (bs := b2) (f := f + 4 + 4) (by omega) w3
    obtain ⟨b4, e4, h4, k4⟩ := X_append (bs := b3) (f := f + 4 + 4 + 4) (by omega) w4
    obtain ⟨b5, e5, h5, k5⟩ := X_append (bs := b4) (f := f + 4 + 4 + 4 + 4) (by omega) w5
    obtain ⟨bf', e6, h6, k6⟩ := M_feedL (bf := bf) (f := f) c w1 w2 w3 w4 w5
    rw [e1, ob_q, uc2_q, e2, ob_q, uc2_q, e3, ob_q, uc2_q, e4, ob_q, uc2_q, e5, ob_q, uc2_q, ob_q, uc3_q, e6, ob_q, uc2_q]
    unfold p10_feed_J120
    rw [ob_q, uc4_q, if_pos (by rfl)]
    refine ⟨b5, nI (f + 4 + 4 + 4 + 4 + 4), bf', nI (f + 20), 0, rfl, fun i => if i < f then B i else bn (wsel w1 w2 w3 w4 w5 ((i - f) / 4)) ((i - f) % 4), f + 20, rfl, rfl, c, fun i hi => ?_⟩
    dsimp only
    by_cases ci : i < f
    · rw [if_pos ci, k6 i ci, k5 i (by omega), k4 i (by omega), k3 i (by omega), k2 i (by omega), k1 i ci]
      exact H.2 i ci
    · rw [if_neg ci]
      have hb := byI_nI (v := wsel w1 w2 w3 w4 w5 ((i - f) / 4)) (r := (i - f) % 4) (by omega)
      refine ⟨hb.1, ?_, ?_⟩
      · rw [← hb.2]
        unfold wsel
        by_cases c0 : (i - f) / 4 = 0
        · rw [if_pos c0, k5 i (by omega), k4 i (by omega), k3 i (by omega), k2 i (by omega)]
          have := h1 ((i - f) % 4) (by omega)
          rw [show f + (i - f) % 4 = i by omega] at this
          exact this
        · rw [if_neg c0]
          by_cases c1 : (i - f) / 4 = 1
          · rw [if_pos c1, k5 i (by omega), k4 i (by omega), k3 i (by omega)]
            have := h2 ((i - f) % 4) (by omega)
            rw [show f + 4 + (i - f) % 4 = i by omega] at this
            exact this
          · rw [if_neg c1]
            by_cases c2 : (i - f) / 4 = 2
            · rw [if_pos c2, k5 i (by omega), k4 i (by omega)]
              have := h3 ((i - f) % 4) (by omega)
              rw [show f + 4 + 4 + (i - f) % 4 = i by omega] at this
              exact this
            · rw [if_neg c2]
              by_cases c3 : (i - f) / 4 = 3
              · rw [if_pos c3, k5 i (by omega)]
                have := h4 ((i - f) % 4) (by omega)
                rw [show f + 4 + 4 + 4 + (i - f) % 4 = i by omega] at this
                exact this
              · rw [if_neg c3]
                have := h5 ((i - f) % 4) (by omega)
                rw [show f + 4 + 4 + 4 + 4 + (i - f) % 4 = i by omega] at this
                exact this
      · rw [← hb.2]
        have := h6 (i - f) (by omega)
        rw [show f + (i - f) = i by omega] at this
        exact this
  · rw [if_pos (nI_lt (by omega) (by omega)), cond_false, if_neg (nI_ge (by omega) (by omega)), ob_q, uc3_q, ob_q, uc4_q, if_pos rfl]
    exact ⟨bs, nI f, bf, nI f, 0, rfl, B, f, rfl, rfl, H⟩
theorem R2 {errS errPos : Int32} (HE : errS = errPos) : ∃ z, pL_2 errS errPos = some z := by
  subst HE
  exact ⟨0, if_pos rfl⟩
