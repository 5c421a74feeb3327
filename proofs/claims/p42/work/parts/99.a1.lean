/-! the law's calls that only read: what both sides answer -/
def FR (pc uc rc : Int32) (lA letters py pu fp sp uY ge am lv rf od rs po fb sb : Nat → Int32) (fam : Nat → Int64) : Prop :=
  ∃ n lc lt yr, pc = nI n ∧ PC n lc lt ∧ PX n lc lt yr lA letters py ∧ FS n lc lt yr uc rc pu fp sp uY ge am lv rf od rs po fb sb fam
def GDV (nL : Nat) (v : Int32) : Prop := ∃ i, i + 5 < nL ∧ nL < 100000 ∧ v = nI i
theorem gd1 {nL : Nat} {v : Int32} (G : GDV nL v) {α : Type} {k : Option α} : gd (v + 1) nL k = k := by
  obtain ⟨i, h1, h2, rfl⟩ := G
  rw [n1, nI_add, gd_in (by omega) (by omega)]
theorem gd2 {nL : Nat} {v : Int32} (G : GDV nL v) {α : Type} {k : Option α} : gd (v + 2) nL k = k := by
  obtain ⟨i, h1, h2, rfl⟩ := G
  rw [n2, nI_add, gd_in (by omega) (by omega)]
theorem gd3 {nL : Nat} {v : Int32} (G : GDV nL v) {α : Type} {k : Option α} : gd (v + 3) nL k = k := by
  obtain ⟨i, h1, h2, rfl⟩ := G
  rw [n3, nI_add, gd_in (by omega) (by omega)]
theorem gd01 {α : Type} {k : Option α} : gd (0 : Int32) 1 k = k := by rw [n0, gd_in (by omega) (by omega)]
theorem updL_eq' {o : Nat → Int64} {v : Int64} : vp_updL o (0 : Int32).toNatClampNeg v (0 : Int32).toNatClampNeg = v := updL_eq
theorem out_ne {v : Int32} {n k : Nat} (h : v < 0 ∨ nI n ≤ v) (hk : k < n) (hn : n < 2147483648) : ¬ v = nI k := by
  intro q
  subst q
  rcases h with h | h
  · exact nI_pos (by omega) h
  · exact nI_ge hk hn h
section RA
variable {n u : Nat} {pr a b g lc : Nat → Nat} {lt : Nat → Nat → Nat} {an : Nat → Nat → Bool} {yr uy : Nat → Int32} {pl : Nat → Nat} {bx : Nat → Nat → Nat} {fam : Nat → Int64} {o : Nat → Int64} {lA letters py pu fp sp uY ge am lv rf od rs po fb sb bA gM lM ro rS cA fc mc : Nat → Int32} {it : Nat → Bool} {pc uc rc R : Int32} {nL : Nat} {xs : Nat → Int32} {v4 : Int32}
end RA
