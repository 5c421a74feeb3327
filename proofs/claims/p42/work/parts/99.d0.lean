/-! feed -/
def byI (v : Int32) (r : Nat) : Int32 := (v.toUInt32 >>> ((nI (24 - 8 * r)).toUInt32 &&& Int32.toUInt32 31)).toInt32 &&& 255
def bn (v : Int32) (r : Nat) : Nat := (byI v r).toBitVec.toNat
theorem bt_255 (q : Nat) : bt (255 : Int32) q = decide (q < 8) := by
  by_cases hq : q < 32
  · have : ∀ q, q < 32 → bt (255 : Int32) q = decide (q < 8) := by decide +kernel
    exact this q hq
  · rw [bt_big (by omega), decide_eq_false (by omega)]
theorem bt_ushr {v : Int32} {s : UInt32} {k : Nat} (hs : s.toNat % 32 = k) (q : Nat) : bt ((v.toUInt32 >>> s).toInt32) q = bt v (k + q) := by
  show ((v.toUInt32 >>> s).toNat).testBit q = v.toUInt32.toNat.testBit (k + q)
  rw [UInt32.toNat_shiftRight, hs, Nat.testBit_shiftRight]
theorem bt_sshr {v : Int32} {k q : Nat} (h : k + q < 32) : bt (v >>> (nI k &&& 31)) q = bt v (k + q) := by
  unfold bt
  rw [Int32.toBitVec_shiftRight, BitVec.sshiftRight', shr_31 (by omega), BitVec.getLsbD_sshiftRight]
  simp [h]
  omega
theorem bt_byI {v : Int32} {r q : Nat} (hr : r < 4) : bt (byI v r) q = (bt v (24 - 8 * r + q) && decide (q < 8)) := by
  have hs : ((nI (24 - 8 * r)).toUInt32 &&& Int32.toUInt32 31).toNat % 32 = 24 - 8 * r := by
    have : ∀ r, r < 4 → ((nI (24 - 8 * r)).toUInt32 &&& Int32.toUInt32 31).toNat % 32 = 24 - 8 * r := by decide +kernel
    exact this r hr
  unfold byI
  rw [bt_and, bt_ushr hs, bt_255]
theorem byI_sar {v : Int32} {r : Nat} (hr : r < 4) : (v >>> (nI (24 - 8 * r) &&& 31)) &&& 255 = byI v r := bt_ext fun q _ => by
  rw [bt_byI hr, bt_and, bt_255]
  by_cases h : q < 8
  · rw [bt_sshr (by omega)]
  · rw [decide_eq_false h, Bool.and_false, Bool.and_false]
theorem byI_nI {v : Int32} {r : Nat} (hr : r < 4) : bn v r < 256 ∧ byI v r = nI (bn v r) := by
  constructor
  · refine Nat.lt_pow_two_of_testBit (n := 8) _ fun i hi => ?_
    show bt (byI v r) i = false
    rw [bt_byI hr, decide_eq_false (by omega), Bool.and_false]
  · refine Int32.toBitVec_inj.mp (BitVec.eq_of_toNat_eq ?_)
    show _ = (BitVec.ofNat 32 (byI v r).toBitVec.toNat).toNat
    rw [BitVec.toNat_ofNat, Nat.mod_eq_of_lt (byI v r).toBitVec.isLt]
theorem X_append {bs : Nat → Int32} {f : Nat} (hf : f + 4 ≤ 800) (v : Int32) : ∃ bs', p3_append (nI f) bs v = some (bs', nI (f + 4)) ∧ (∀ r, r < 4 → bs' (f + r) = byI v r) ∧ ∀ q, q < f → bs' q = bs q := by
  have hstep : ∀ (r fuel : Nat) (z : Nat → Int32), r < 4 → p3_append_L3 v (fuel + 1) (nI (24 - 8 * r)) z (nI (f + r)) = p3_append_L3 v fuel (nI (24 - 8 * r) + -8) (upd z (f + r) (byI v r)) (nI (f + (r + 1))) := by
    intro r fuel z hr
    rw [p3_append_L3, p3_append_L3_B, if_neg (show ¬ nI (24 - 8 * r) < 0 from nI_pos (by omega)), put_in (by omega) (by omega)]
    simp only [lb_eq]
    rw [show nI (f + r) + 1 = nI (f + (r + 1)) from nI_1 _]
    rfl
  refine ⟨upd (upd (upd (upd bs (f + 0) (byI v 0)) (f + 1) (byI v 1)) (f + 2) (byI v 2)) (f + 3) (byI v 3), ?_, fun r hr => ?_, fun q hq => ?_⟩
  · unfold p3_append
    rw [show FU = 1019 + 1 + 1 + 1 + 1 + 1 from rfl, show (24 : Int32) = nI (24 - 8 * 0) from rfl, show nI f = nI (f + 0) from rfl, hstep 0 _ _ (by omega), show nI (24 - 8 * 0) + -8 = nI (24 - 8 * 1) from by decide, hstep 1 _ _ (by omega), show nI (24 - 8 * 1) + -8 = nI (24 - 8 * 2) from by decide, hstep 2 _ _ (by omega), show nI (24 - 8 * 2) + -8 = nI (24 - 8 * 3) from by decide, hstep 3 _ _ (by omega), p3_append_L3, p3_append_L3_B, if_pos (by decide)]
    rfl
  · have : r = 0 ∨ r = 1 ∨ r = 2 ∨ r = 3 := by omega
    rcases this with rfl | rfl | rfl | rfl
    · rw [upd_ne (by omega), upd_ne (by omega), upd_ne (by omega), upd_eq]
    · rw [upd_ne (by omega), upd_ne (by omega), upd_eq]
    · rw [upd_ne (by omega), upd_eq]
    · rw [upd_eq]
  · rw [upd_ne (by omega), upd_ne (by omega), upd_ne (by omega), upd_ne (by omega)]
def wsel (v1 v2 v3 v4 v5 : Int32) (i : Nat) : Int32 := if i = 0 then v1 else if i = 1 then v2 else if i = 2 then v3 else if i = 3 then v4 else v5
theorem nI_mod4 {v : Nat} (hv : v < 1073741824) : nI v - nI v / 4 * 4 = nI (v % 4) := by
  rw [n4, nI_div hv (by omega), nI_mul, nI_sub (by omega)]
  congr 1
  omega
theorem gd4 {nL : Nat} {v : Int32} (G : GDV nL v) {α : Type} {k : Option α} : gd (v + 4) nL k = k := by
  obtain ⟨i, h1, h2, rfl⟩ := G
  rw [n4, nI_add, gd_in (by omega) (by omega)]
theorem gd5 {nL : Nat} {v : Int32} (G : GDV nL v) {α : Type} {k : Option α} : gd (v + 5) nL k = k := by
  obtain ⟨i, h1, h2, rfl⟩ := G
  rw [n5, nI_add, gd_in (by omega) (by omega)]
