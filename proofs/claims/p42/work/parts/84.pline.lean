section PLINE
variable {n u : Nat} {pr a b g lc : Nat → Nat} {lt : Nat → Nat → Nat} {an : Nat → Nat → Bool} {fam : Nat → Int64} {pu fp sp ge am lv rf od rs po fb sb rS bA lA fc mc cA line letters : Nat → Int32} {len : Int32} {pl : Nat → Nat} {bx : Nat → Nat → Nat} {s : Nat × (Nat → Int32)} {N : Nat}
theorem rowL_BLK (hb : BLK s) {col : Nat → Nat} {r : Nat} : ∀ k, BLK (rowL a b g lc col lt bx r k s) := by
  intro k
  induction k with
  | zero => exact hb
  | succ k ih => exact BLK_bxl ih
theorem pmk_BLK (hb : BLK s) {col : Nat → Nat} {r : Nat} : ∀ k, BLK (pmk pr a b g lc col r k s) := by
  intro k
  induction k with
  | zero => exact hb
  | succ k ih =>
    unfold pmk
    split
    · exact ih.mk
    · exact ih
theorem lnS_ok (W : WF n u pr a b g) (hlc : ∀ p, p < n → lc p ≤ 8) (L : LAY n u a b g pl bx) {v : Nat} : BLK (lnS n u pr a b g lc lt bx v) ∧ (lnS n u pr a b g lc lt bx v).1 ≤ 321 := by
  have hn := W.n16
  have hu := W.u12
  unfold lnS
  by_cases e0 : v % 3 = 0
  · rw [if_pos e0]
    have := rowL_le (lt := lt) (s := (0, fun _ => 32)) L (colF_le W hlc L) (r := v / 3) (by show 0 ≤ 308; omega) _ (Nat.le_refl _)
    exact ⟨rowL_BLK BLK0 _, by omega⟩
  · rw [if_neg e0]
    by_cases e1 : v % 3 = 1
    · rw [if_pos e1]
      have := umk_ok (s := (0, fun _ => 32)) (r := v / 3) BLK0 (by show 0 ≤ 308; omega) hu (ucF_le W hlc L) u (Nat.le_refl _)
      exact ⟨this.1, by have := this.2; omega⟩
    · rw [if_neg e1]
      have := pmk_le (pr := pr) (s := (0, fun _ => 32)) (r := v / 3) (by show 0 ≤ 309; omega) (fun p hp => mdF_le (x := p) W hlc L (by omega) (by rw [th_p (by omega)]; exact decide_eq_true hp)) n (Nat.le_refl _)
      exact ⟨pmk_BLK BLK0 _, by omega⟩
theorem LN.LB (h : LN 400 s line len) (hb : BLK s) (hs : s.1 ≤ 400) : LB line len := ⟨s.1, hs, h.1, fun c h1 h2 => by rw [h.2 c h2]; exact hb c h1⟩
theorem X4_line (W : WF n u pr a b g) (F : FX n u pr a b pu fp sp) (Q : RF n u a b g an ge am lv rf) (C : LCX n lc lA) (T : LTX n lc lt letters) (hlc : ∀ p, p < n → lc p ≤ 8) (R : RX n u a b g pl bx od rs po fb sb) (L : LAY n u a b g pl bx) (X : CX n u a b g lc pl (rowsN g n) 0 (colF n u pr a b g lc bx) fc mc) (B : LB line len) {v : Nat} (hv : v < 3 * rowsN g n) :
    ∃ line' len', p4_printLine (nI n) (nI u) len fc mc ge lA letters lv pu rf line fb od rs sb (nI v) = some (line', len') ∧ LN 400 (lnS n u pr a b g lc lt bx v) line' len' := by
  have hn := W.n16
  have hR := rows16 W
  have hr : v / 3 < rowsN g n := by omega
  obtain ⟨line0, e0, h0⟩ := X4_clear B
  have h0' : LN 400 (0, fun _ => 32) line0 (nI 0) := h0
  have CBf := call_CB (r := rowsN g n) (c := fun _ => 0) (pr := pr) W hlc L
  unfold p4_printLine
  rw [e0]
  simp only [ob, uc2]
  rw [nI_mod3 (by omega), n3, nI_div (by omega) (by omega)]
  simp only [lb]
  unfold lnS
  by_cases c0 : v % 3 = 0
  · rw [if_pos c0, c0, if_pos n0.symm]
    obtain ⟨line1, len1, e1, h1⟩ := X4_boxes (s := (0, fun _ => 32)) W (fun w hw => (Q.2 w hw).2) C T hlc R L (fun x hx ht => (X x (dn_all W hx ht)).1) (colF_le W hlc L) hr (by show 0 ≤ 308; omega) h0'
    rw [n0, e1]
    exact ⟨line1, len1, rfl, h1⟩
  · rw [if_neg c0, n0, if_neg (fun q => c0 ((nI_eq (by omega) (by omega)).mp q))]
    by_cases c1 : v % 3 = 1
    · rw [if_pos c1, n1, if_pos (by rw [c1])]
      obtain ⟨line1, len1, e1, h1⟩ := X4_unions (s := (0, fun _ => 32)) (mc := mc) (fb := fb) (sb := sb) (u := u) (a := a) (b := b) (g := g) (lc := lc) (col := colF n u pr a b g lc bx) W.u12 (fun w hw => (Q.2 w hw).1) (fun w hw => lw_lt W hw) (r := v / 3) (by omega) (fun w hw _ => by
        obtain ⟨a1, a2, a3⟩ := bxa_ok W hw
        obtain ⟨b1, b2, b3⟩ := bxb_ok W hw
        exact X0_union W hlc L CBf X R.2.2.2 hw (dn_all W a1 a2) (dn_all W b1 b2) (Nat.le_refl _)) (ucF_le W hlc L) BLK0 (by show 0 ≤ 308; omega) h0'
      rw [e1]
      exact ⟨line1, len1, rfl, h1⟩
    · rw [if_neg c1, n1, if_neg (fun q => c1 ((nI_eq (by omega) (by omega)).mp q)), nI_add]
      obtain ⟨line1, len1, e1, h1⟩ := X4_persons (s := (0, fun _ => 32)) (lc := lc) (col := colF n u pr a b g lc bx) W F (fun p hp => (Q.1 p hp).1) (r := v / 3) (by omega) (fun p hp => (X p (dn_all W (by omega) (by rw [th_p (by omega)]; exact decide_eq_true hp))).2) (fun p hp => mdF_le (x := p) W hlc L (by omega) (by rw [th_p (by omega)]; exact decide_eq_true hp)) (by show 0 ≤ 309; omega) h0'
      rw [e1]
      exact ⟨line1, len1, rfl, h1⟩
end PLINE
