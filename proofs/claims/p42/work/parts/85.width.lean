/-! the chart's width -/
def wdS (n u : Nat) (pr a b g lc : Nat → Nat) (lt : Nat → Nat → Nat) (bx : Nat → Nat → Nat) : Nat → Nat
  | 0 => 0
  | k + 1 => max (wdS n u pr a b g lc lt bx k) (lnS n u pr a b g lc lt bx k).1
section WIDTH
variable {n u : Nat} {pr a b g lc : Nat → Nat} {lt : Nat → Nat → Nat} {an : Nat → Nat → Bool} {fam : Nat → Int64} {pu fp sp ge am lv ro rf od rs po fb sb rS bA lA fc mc cA line letters : Nat → Int32} {it : Nat → Bool} {len : Int32} {pl : Nat → Nat} {bx : Nat → Nat → Nat} {s : Nat × (Nat → Int32)}
theorem wdS_le (W : WF n u pr a b g) (hlc : ∀ p, p < n → lc p ≤ 8) (L : LAY n u a b g pl bx) : ∀ k, wdS n u pr a b g lc lt bx k ≤ 321 := by
  intro k
  induction k with
  | zero => exact Nat.zero_le _
  | succ k ih =>
    have := (lnS_ok (lt := lt) W hlc L (v := k)).2
    unfold wdS
    omega
theorem X4_widest (W : WF n u pr a b g) (F : FX n u pr a b pu fp sp) (Q : RF n u a b g an ge am lv rf) (C : LCX n lc lA) (T : LTX n lc lt letters) (hlc : ∀ p, p < n → lc p ≤ 8) (R : RX n u a b g pl bx od rs po fb sb) (L : LAY n u a b g pl bx) (X : CX n u a b g lc pl (rowsN g n) 0 (colF n u pr a b g lc bx) fc mc) (B : LB line len) :
    ∃ line' len', p4_widest (nI n) (nI u) (nI (rowsN g n)) len fc mc ge lA letters lv pu rf line fb od rs sb = some (nI (wdS n u pr a b g lc lt bx (3 * rowsN g n)), line', len') ∧ LB line' len' := by
  have hR := rows16 W
  have hL := loop_all (fun k i (z : (Nat → Int32) × Int32) => p4_widest_L4 fc mc ge lA letters lv pu (nI n) rf (nI (rowsN g n)) (nI u) fb od rs sb k (nI (wdS n u pr a b g lc lt bx i)) (nI i) z.1 z.2) (3 * rowsN g n)
    (fun _ z => LB z.1 z.2) (fun (z : Int32 × (Nat → Int32) × Int32) => z.1 = nI (wdS n u pr a b g lc lt bx (3 * rowsN g n)) ∧ LB z.2.1 z.2.2) (by
      intro k z hz
      refine ⟨(nI (wdS n u pr a b g lc lt bx (3 * rowsN g n)), z.1, z.2), ?_, rfl, hz⟩
      try dsimp only
      rw [p4_widest_L4, p4_widest_L4_B, n3, nI_mul, if_pos (nI_le (Nat.le_refl _) (by omega))]) (by
      intro k i z hi hz
      obtain ⟨line1, len1, e1, h1⟩ := X4_line (lt := lt) W F Q C T hlc R L X hz hi
      obtain ⟨b1, b2⟩ := lnS_ok (lt := lt) W hlc L (v := i)
      have hw := wdS_le (lt := lt) W hlc L i
      refine ⟨(line1, len1), ?_, h1.LB b1 (by omega)⟩
      try dsimp only
      rw [p4_widest_L4, p4_widest_L4_B, n3, nI_mul, if_neg (nI_ge hi (by omega)), e1]
      simp only [ob, uc2, lb]
      rw [h1.1, imax_nI (by omega) (by omega), n1, nI_add]
      rfl) FU 0 (line, len) (Nat.zero_le _) (by show 3 * rowsN g n - 0 < 1024; omega) B
  obtain ⟨z, e1, e2, e3⟩ := hL
  refine ⟨z.2.1, z.2.2, ?_, e3⟩
  have e1' : p4_widest_L4 fc mc ge lA letters lv pu (nI n) rf (nI (rowsN g n)) (nI u) fb od rs sb FU (nI 0) (nI 0) line len = some z := e1
  unfold p4_widest
  rw [n0, e1']
  simp only [ob, uc3, p4_widest_J37]
  rw [← e2]
end WIDTH
