/-! the law's calls that only read: what both sides answer -/
def FR (pc uc rc : Int32) (lA letters py pu fp sp uY ge am lv rf od rs po fb sb : Nat → Int32) (fam : Nat → Int64) : Prop :=
  ∃ n lc lt yr, pc = nI n ∧ PC n lc lt ∧ PX n lc lt yr lA letters py ∧ FS n lc lt yr uc rc pu fp sp uY ge am lv rf od rs po fb sb fam
def GDV (nL : Nat) (v : Int32) : Prop := ∃ i, i + 5 < nL ∧ nL < 100000 ∧ v = nI i
theorem gd1 {nL : Nat} {v : Int32} (G : GDV nL v) {α : Type} {k : Option α} : gd (v + 1) nL k = k := by
  obtain ⟨i, h1, h2, rfl⟩ := G
  rw [n1, nI_add, gd_in (by omega) (by omega)]
theorem gd2 {nL : Nat} {v : Int32} (G : GDV nL v) {α : Type} {k : Option α} : gd (v + 2) nL k = k := by
  obtain ⟨i, h1, h2, rfl⟩ := G
  rw [n2, nI_add, gd_in (by omega) (by omega)]
theorem gd3 {nL : Nat} {v : Int32} (G : GDV nL v) {α : Type} {k : Option α} : gd (v + 3) nL k = k := by
  obtain ⟨i, h1, h2, rfl⟩ := G
  rw [n3, nI_add, gd_in (by omega) (by omega)]
theorem gd01 {α : Type} {k : Option α} : gd (0 : Int32) 1 k = k := by rw [n0, gd_in (by omega) (by omega)]
theorem updL_eq' {o : Nat → Int64} {v : Int64} : vp_updL o (0 : Int32).toNatClampNeg v (0 : Int32).toNatClampNeg = v := updL_eq
theorem out_ne {v : Int32} {n k : Nat} (h : v < 0 ∨ nI n ≤ v) (hk : k < n) (hn : n < 2147483648) : ¬ v = nI k := by
  intro q
  subst q
  rcases h with h | h
  · exact nI_pos (by omega) h
  · exact nI_ge hk hn h
section RA
variable {n u : Nat} {pr a b g lc : Nat → Nat} {lt : Nat → Nat → Nat} {an : Nat → Nat → Bool} {yr uy : Nat → Int32} {pl : Nat → Nat} {bx : Nat → Nat → Nat} {fam : Nat → Int64} {o : Nat → Int64} {lA letters py pu fp sp uY ge am lv rf od rs po fb sb bA gM lM ro rS cA fc mc : Nat → Int32} {it : Nat → Bool} {pc uc rc R : Int32} {nL : Nat} {xs : Nat → Int32} {v4 : Int32}
theorem R4 (G : GDV nL v4) (I : FR pc uc rc lA letters py pu fp sp uY ge am lv rf od rs po fb sb fam) : ∃ z, pL_4 nL xs v4 pc uc lA py pu fp sp ge R fam gM lM rS ro it bA o = some z := by
  obtain ⟨n, lc, lt, yr, rfl, hC, hX, u, pr, a, b, g, an, uy, pl, bx, rfl, rfl, U, X, V, P⟩ := I
  have W := U.1
  have hn := W.n16
  have hu := W.u12
  unfold pL_4 pL_person p9_person p10_person
  simp only [gd1 G, gd2 G]
  generalize xs (v4 + 1).toNatClampNeg = x
  generalize xs (v4 + 2).toNatClampNeg = y
  rcases reqPerson (fam := fam) x hn with ⟨p, hp, rfl, ex, -⟩ | ⟨hx, ex⟩
  case inr =>
    rw [ex, M_isNP V.1 hn hx]
    exact ⟨_, rfl⟩
  rw [ex, M_isP V.1 hn hp]
  simp only [ox, ob, cond_true]
  rcases idx_cases y 5 (by omega) with ⟨k, hk, rfl⟩ | hy
  · rw [show p10_inRange (nI k).toInt64 0 4 = true from inRange_in (n := 5) hk (by omega), cond_true]
    obtain ⟨bA', gM', it', lM', ro', rS', e0, Gx, B, BAx⟩ := M_lay (bA := bA) (ge := gM) (it := it) (lv := lM) (ro := ro) (rs := rS) W V.1 V.2.1 U.2.2
    rw [e0]
    simp only [uc7]
    have hk' : k = 0 ∨ k = 1 ∨ k = 2 ∨ k = 3 ∨ k = 4 := by omega
    rcases hk' with rfl | rfl | rfl | rfl | rfl
    · rw [if_pos (by decide), if_pos (by decide), at_in (by omega) (by omega), hX.2.2 p hp, n0, M_ofPerson (by omega) (by omega), show 2 + 4 * p + 0 = 2 + 4 * p from rfl, P.2.2 p hp]
      simp only [oi, oh, lb_eq, ob, uc2, uc9]
      rw [← n0]
      simp only [gd01, updL_eq', p10_thrown, if_true, Int32.toInt32_toInt64]
      exact ⟨_, rfl⟩
    · rw [if_neg (by decide), if_pos (by decide), if_neg (by decide), if_pos (by decide), at_in (by omega) (by omega), (X.2.2.1.1 p hp).1, gd_in (by omega) (by omega), nI_clamp (by omega), Gx.1 p hp]
      simp only [oi, oh, lb_eq, ob, uc2, uc9, gd01, updL_eq', p10_thrown, if_true]
      exact ⟨_, rfl⟩
    · rw [if_neg (by decide), if_neg (by decide), if_pos (by decide), if_neg (by decide), if_neg (by decide), if_pos (by decide), X.1.at_pu hn hp, M_parentsOf V.1 hn hp]
      simp only [oi, oh, lb_eq, ob, uc2, uc9, gd01, updL_eq', p10_thrown, if_true]
      exact ⟨_, rfl⟩
    · rw [if_neg (by decide), if_neg (by decide), if_neg (by decide), if_pos (by decide), if_neg (by decide), if_neg (by decide), if_neg (by decide), if_pos (by decide), X1_unionsOf W X.1 (by omega), M_unionsOf W V.1 hp]
      simp only [oi, oh, lb_eq, ob, uc2, uc9, gd01, updL_eq', p10_thrown, if_true]
      exact ⟨_, rfl⟩
    · rw [if_neg (by decide), if_neg (by decide), if_neg (by decide), if_neg (by decide), if_pos (by decide), if_neg (by decide), if_neg (by decide), if_neg (by decide), if_neg (by decide), at_in (by omega) (by omega), hX.1 p hp, n3, M_ofPerson (by omega) (by omega), P.1 p hp]
      simp only [oi, oh, lb_eq, ob, uc2, uc9, gd01, updL_eq', p10_thrown, if_true]
      rw [lN_i]
      rw [if_pos rfl]
      exact ⟨_, rfl⟩
  · rw [show p10_inRange y.toInt64 0 4 = false from inRange_out (n := 5) hy (by omega), cond_false, if_neg (show ¬ y = 0 from out_ne (k := 0) hy (by omega) (by omega)), if_neg (show ¬ y = 1 from out_ne (k := 1) hy (by omega) (by omega)), if_neg (show ¬ y = 2 from out_ne (k := 2) hy (by omega) (by omega)), if_neg (show ¬ y = 3 from out_ne (k := 3) hy (by omega) (by omega)), if_neg (show ¬ y = 4 from out_ne (k := 4) hy (by omega) (by omega))]
    exact ⟨_, rfl⟩
end RA
