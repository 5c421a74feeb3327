/-! format; relations -/
section RAE
variable {n u : Nat} {pr a b g lc : Nat → Nat} {lt : Nat → Nat → Nat} {an : Nat → Nat → Bool} {yr uy : Nat → Int32} {pl : Nat → Nat} {bx : Nat → Nat → Nat} {fam mh ms ek mk : Nat → Int64} {o : Nat → Int64} {hc line mline text fmt lA letters py pu fp sp uY ge am lv rf od rs po fb sb bA gM lM ro rS cA fc mc ew en mw mf : Nat → Int32} {it : Nat → Bool} {kept has : Bool} {pc uc rc R next held uH len mlen tl fl : Int32} {nL : Nat} {xs : Nat → Int32} {v4 : Int32}
theorem R21 (G : GDV nL v4) (I : FR pc uc rc lA letters py pu fp sp uY ge am lv rf od rs po fb sb fam) (B0 : LB line len) (T0 : TX text tl fmt fl) :
    ∃ fc' mc' bA' cA' fmt' fl' gM' it' lM' ml' mn' ro' rS' R' t' o' line' len' text' tl', pL_21 nL xs v4 pc uc rc len tl letters lA pu ge lv rf od rs fb sb fc mc line text mlen fl fam gM lM rS ro it bA cA mline fmt o = some (fc', mc', bA', cA', fmt', fl', gM', it', lM', ml', mn', ro', rS', R', t', o', line', len', text', tl') ∧ LB line' len' ∧ TX text' tl' fmt' fl' := by
  obtain ⟨n, lc, lt, yr, rfl, hC, hX, u, pr, a, b, g, an, uy, pl, bx, rfl, rfl, U, X, V, P⟩ := I
  have W := U.1
  have hR := rows16 W
  unfold pL_21 pL_format p9_format p10_format
  simp only [gd1 G, gd2 G, gd3 G]
  generalize xs (v4 + 1).toNatClampNeg = x
  generalize xs (v4 + 2).toNatClampNeg = y
  generalize xs (v4 + 3).toNatClampNeg = z
  obtain ⟨bA', cA', gM', it', lM', ro', rS', e0, ⟨Gx, B, BAx⟩, CMx⟩ := M_layColumns (bA := bA) (cA := cA) (ge := gM) (it := it) (lv := lM) (ro := ro) (rS := rS) W V.1 V.2.1 P.1 hC.1 U.2.2
  rw [e0]
  simp only [ob, uc8]
  have h3 : (3 : Int64) * (nI (rowsN g n)).toInt64 - 1 = lN (3 * rowsN g n) - 1 := by
    rw [nI_l (by omega), show (3 : Int64) = lN 3 from rfl, lN_mul]
  rw [h3, show (3 : Int32) * nI (rowsN g n) = nI (3 * rowsN g n) from nI_mul 3 _]
  have hthrow : ∀ (e : Int32), (e = 1 ∨ e = 2) → ∃ fc' mc' bA'' cA'' fmt' fl' gM'' it'' lM'' ml' mn' ro'' rS'' R' t' o' line' len' text' tl', some (fc, mc, bA', cA', fmt, fl, gM', it', lM', mline, mlen, ro', rS', nI (rowsN g n), e, o, line, len, text, tl) = some (fc', mc', bA'', cA'', fmt', fl', gM'', it'', lM'', ml', mn', ro'', rS'', R', t', o', line', len', text', tl') ∧ LB line' len' ∧ TX text' tl' fmt' fl' := fun e _ => ⟨_, _, _, _, _, _, _, _, _, _, _, _, _, _, _, _, _, _, _, _, rfl, B0, T0⟩
  rcases idx_cases x (3 * rowsN g n) (by omega) with ⟨v, hv, rfl⟩ | hx
  case inr =>
    rw [inRange_out hx (by omega), cond_false]
    by_cases c : x < 0
    · rw [if_pos c]
      exact hthrow 1 (Or.inl rfl)
    · rw [if_neg c, if_pos (show nI (3 * rowsN g n) ≤ x by
        rcases hx with h | h
        · exact absurd h c
        · exact h)]
      exact hthrow 1 (Or.inl rfl)
  rw [inRange_in hv (by omega), cond_true, n0, if_neg (nI_nlt (by omega) (by omega)), if_neg (nI_ge hv (by omega))]
  by_cases cy : nI 0 ≤ y
  case neg =>
    rw [if_neg cy, if_neg cy]
    exact hthrow 1 (Or.inl rfl)
  rw [if_pos cy, if_pos cy]
  have cy' : ¬ y < 0 := fun q => by
    rw [Int32.lt_iff_toInt_lt] at q
    rw [Int32.le_iff_toInt_le] at cy
    have h1 : (0 : Int32).toInt = 0 := by decide
    have h2 : (nI 0).toInt = 0 := by decide
    omega
  obtain ⟨k, hk, rfl⟩ := nI_of cy'
  rcases reqWidth z with ⟨w, h1, h2, rfl, e1, e2⟩ | ⟨e1, e2⟩
  case inr =>
    rw [e1, e2, cond_false]
    exact hthrow 2 (Or.inr rfl)
  obtain ⟨fc', mc', e3, CXx⟩ := X0_layOut (fc := fc) (mc := mc) W X.1 (fun w hw => (X.2.2.1.2 w hw).2) hX.1 hC.1 X.2.2.2 U.2.2
  obtain ⟨line1, len1, e4, LN1⟩ := X4_line (lt := lt) W X.1 X.2.2.1 hX.1 hX.2.1 hC.1 X.2.2.2 U.2.2 CXx B0 hv
  obtain ⟨ml1, mn1, e5, LN2⟩ := M_line (line := mline) W V.1 Gx B.2 BAx P.1 P.2.1 hC.1 hC.2 U.2.2 CMx hv
  obtain ⟨b1, b2⟩ := lnS_ok (lt := lt) W hC.1 U.2.2 (v := v)
  obtain ⟨text', e6, t6⟩ := X4_cutText (text := text) LN1 (by omega) (v := w) (k := k) (by omega) hk
  obtain ⟨fmt', e7, t7⟩ := M_cutText (fmt := fmt) LN2 (by omega) (v := w) (k := k) (by omega)
  have hkw : k * w < 1099511627776 := by
    have : k * w ≤ 2147483648 * 200 := Nat.mul_le_mul (by omega) (by omega)
    omega
  refine ⟨fc', mc', bA', cA', fmt', nI (min w ((lnS n u pr a b g lc lt bx v).1 - k * w)), gM', it', lM', ml1, mn1, ro', rS', nI (rowsN g n), 0, vp_updL o (0 : Int32).toNatClampNeg (nI (min w ((lnS n u pr a b g lc lt bx v).1 - k * w))).toInt64, line1, len1, text', nI (min w ((lnS n u pr a b g lc lt bx v).1 - k * w)), ?_, LN1.LB b1 (by omega), ⟨_, by omega, rfl, rfl, fun i hi => by rw [t6 i hi, t7 i hi]⟩⟩
  rw [e1, e2, cond_true, e5]
  simp only [ox, uc2, lb_eq]
  rw [e3]
  simp only []
  rw [e4]
  simp only []
  rw [LN2.1, nI_l hk, nI_l (show w < 2147483648 by omega), nI_l (show (lnS n u pr a b g lc lt bx v).1 < 2147483648 by omega), lN_mul, lN_mul, Nat.mul_comm w k, e6, show (0 : Int64) = lN 0 from rfl]
  rw [show lmax (lN 0) (lmin (lN w) (lN (lnS n u pr a b g lc lt bx v).1 - lN (k * w))) = lmax 0 (lmin (lN w) (lN (lnS n u pr a b g lc lt bx v).1 - lN (k * w))) from rfl, lcut (by omega) (by omega) hkw, e7]
  simp only [p10_format_J122, oi, oh]
  rw [← n0]
  simp only [uc7, uc8, uc14, lb_eq, gd01, updL_eq', p10_thrown, if_true]
theorem R9 (G : GDV nL v4) (I : FR pc uc rc lA letters py pu fp sp uY ge am lv rf od rs po fb sb fam) : ∃ z, pL_9 nL xs v4 pc rc pu fp sp ge ek R fam gM lM mk o = some z := by
  obtain ⟨n, lc, lt, yr, rfl, hC, hX, u, pr, a, b, g, an, uy, pl, bx, rfl, rfl, U, X, V, P⟩ := I
  have W := U.1
  have hn := W.n16
  unfold pL_9 pL_kinship p9_kinship p10_kinship
  simp only [gd1 G, gd2 G]
  generalize xs (v4 + 1).toNatClampNeg = x
  generalize xs (v4 + 2).toNatClampNeg = y
  rw [M_arePersons V.1 hn]
  simp only [ob, uc2]
  rcases reqPerson (fam := fam) x hn with ⟨p, hp, rfl, ex, -⟩ | ⟨hx, ex⟩
  case inr =>
    rw [ex, hasPerson_out hx]
    exact ⟨_, rfl⟩
  rw [ex, hasPerson_in hp (by omega)]
  rcases reqPerson (fam := fam) y hn with ⟨q, hq, rfl, ey, -⟩ | ⟨hy, ey⟩
  case inr =>
    rw [ey, hasPerson_out hy]
    exact ⟨_, rfl⟩
  rw [ey, hasPerson_in hq (by omega)]
  obtain ⟨e', q1, h1⟩ := X6_note (e0 := ek) W X.1 (fun p hp => (X.2.2.1.1 p hp).1)
  obtain ⟨ge', mk', lv', q2, h2, -, h3⟩ := M_forget (ge := gM) (lv := lM) (mk := mk) W V.1
  have g1 := W.glt hp
  have g2 := W.glt hq
  obtain ⟨mk2, q3, -⟩ := M_kinshipOf W V.1 h2 h1 64 p q mk' hp hq (by omega) (fun p q hp hq => Or.inl (h3 _ (by omega)))
  simp only [ox, Bool.and_self, cond_true, if_true]
  rw [q1, q2]
  simp only [uc4]
  rw [K6_get (by omega) (by omega), q3]
  simp only [oi, oh, uc2, uc3, uc6, lb_eq, gd01, updL_eq', p10_thrown, if_true]
  rw [show e' (p * 16 + q) = kT e' p q from rfl, if_pos rfl]
  exact ⟨_, rfl⟩
theorem R10 (G : GDV nL v4) (I : FR pc uc rc lA letters py pu fp sp uY ge am lv rf od rs po fb sb fam) : ∃ z, pL_10 nL xs v4 pc pu fp sp fam o = some z := by
  obtain ⟨n, lc, lt, yr, rfl, hC, hX, u, pr, a, b, g, an, uy, pl, bx, rfl, rfl, U, X, V, P⟩ := I
  have W := U.1
  have hn := W.n16
  unfold pL_10 pL_distance p9_distance
  simp only [gd1 G, gd2 G]
  generalize xs (v4 + 1).toNatClampNeg = x
  generalize xs (v4 + 2).toNatClampNeg = y
  rcases reqPerson (fam := fam) x hn with ⟨p, hp, rfl, ex, -⟩ | ⟨hx, ex⟩
  case inr =>
    unfold p10_distance
    rw [ex, M_arePersons V.1 hn, hasPerson_out hx]
    exact ⟨_, rfl⟩
  rcases reqPerson (fam := fam) y hn with ⟨q, hq, rfl, ey, -⟩ | ⟨hy, ey⟩
  case inr =>
    unfold p10_distance
    rw [ex, ey, M_arePersons V.1 hn, hasPerson_out hy, hasPerson_in hp (by omega)]
    exact ⟨_, rfl⟩
  obtain ⟨r, e1, h1⟩ := X6_distance W X.1 hp hq
  obtain ⟨s, e2, h2⟩ := M_distance W V.1 hp hq
  rw [ex, ey, e2, DST.uniq h2 h1]
  simp only [ox]
  rw [e1]
  simp only [ob, oi, oh, uc2, lb_eq, gd01, updL_eq', p10_thrown, if_true]
  exact ⟨_, rfl⟩
theorem R11 (G : GDV nL v4) (I : FR pc uc rc lA letters py pu fp sp uY ge am lv rf od rs po fb sb fam) : ∃ z, pL_11 nL xs v4 pc rc pu fp sp ge ew fam mw mf o = some z := by
  obtain ⟨n, lc, lt, yr, rfl, hC, hX, u, pr, a, b, g, an, uy, pl, bx, rfl, rfl, U, X, V, P⟩ := I
  have W := U.1
  have hn := W.n16
  unfold pL_11 pL_linesTo p9_linesTo
  simp only [gd1 G, gd2 G]
  generalize xs (v4 + 1).toNatClampNeg = x
  generalize xs (v4 + 2).toNatClampNeg = y
  rcases reqPerson (fam := fam) x hn with ⟨p, hp, rfl, ex, -⟩ | ⟨hx, ex⟩
  case inr =>
    unfold p10_linesTo
    rw [ex, M_arePersons V.1 hn, hasPerson_out hx]
    exact ⟨_, rfl⟩
  rcases reqPerson (fam := fam) y hn with ⟨q, hq, rfl, ey, -⟩ | ⟨hy, ey⟩
  case inr =>
    unfold p10_linesTo
    rw [ex, ey, M_arePersons V.1 hn, hasPerson_out hy, hasPerson_in hp (by omega)]
    exact ⟨_, rfl⟩
  obtain ⟨wy', e1⟩ := X6_linesTo (wy := ew) W X.1 (fun p hp => (X.2.2.1.1 p hp).1) hp hq
  obtain ⟨wy2, nx2, e2⟩ := M_linesTo (wy := mw) (nx := mf) W V.1 hp hq
  rw [ex, ey, e2]
  simp only [ox]
  rw [e1]
  simp only [ob, oi, oh, uc2, uc3, uc4, lb_eq, gd01, updL_eq', p10_thrown, if_true]
  exact ⟨_, rfl⟩
theorem R12 (G : GDV nL v4) (I : FR pc uc rc lA letters py pu fp sp uY ge am lv rf od rs po fb sb fam) : ∃ z, pL_12 nL xs v4 pc ge am R fam gM lM o = some z := by
  obtain ⟨n, lc, lt, yr, rfl, hC, hX, u, pr, a, b, g, an, uy, pl, bx, rfl, rfl, U, X, V, P⟩ := I
  have W := U.1
  have hn := W.n16
  unfold pL_12 pL_nearestAncestor p9_nearestAncestor
  simp only [gd1 G, gd2 G]
  generalize xs (v4 + 1).toNatClampNeg = x
  generalize xs (v4 + 2).toNatClampNeg = y
  rcases reqPerson (fam := fam) x hn with ⟨p, hp, rfl, ex, -⟩ | ⟨hx, ex⟩
  case inr =>
    unfold p10_nearestAncestor
    rw [ex, M_arePersons V.1 hn, hasPerson_out hx]
    exact ⟨_, rfl⟩
  rcases reqPerson (fam := fam) y hn with ⟨q, hq, rfl, ey, -⟩ | ⟨hy, ey⟩
  case inr =>
    unfold p10_nearestAncestor
    rw [ex, ey, M_arePersons V.1 hn, hasPerson_out hy, hasPerson_in hp (by omega)]
    exact ⟨_, rfl⟩
  obtain ⟨ge', lv', e2⟩ := M_nearestA (ge := gM) (lv := lM) (R0 := R) W U.2.1 V.1 hp hq
  rw [ex, ey, e2, X6_nearestA W X.2.2.1 hp hq]
  simp only [ox, ob, oi, oh, uc2, uc5, lb_eq, gd01, updL_eq', p10_thrown, if_true]
  exact ⟨_, rfl⟩
theorem R13 (G : GDV nL v4) (I : FR pc uc rc lA letters py pu fp sp uY ge am lv rf od rs po fb sb fam) : ∃ z, pL_13 nL xs v4 pc pu fp sp ew en fam mw mf o = some z := by
  obtain ⟨n, lc, lt, yr, rfl, hC, hX, u, pr, a, b, g, an, uy, pl, bx, rfl, rfl, U, X, V, P⟩ := I
  have W := U.1
  have hn := W.n16
  unfold pL_13 pL_collapse p9_collapse p10_collapse
  simp only [gd1 G, gd2 G]
  generalize xs (v4 + 1).toNatClampNeg = x
  generalize xs (v4 + 2).toNatClampNeg = y
  rcases reqPerson (fam := fam) x hn with ⟨p, hp, rfl, ex, -⟩ | ⟨hx, ex⟩
  case inr =>
    rw [ex, M_isNP V.1 hn hx]
    exact ⟨_, rfl⟩
  rw [ex, M_isP V.1 hn hp, show p10_inRange y.toInt64 1 15 = _ from inR y 1 15]
  simp only [ox, ob, cond_true]
  by_cases c1 : y < 1
  · rw [if_pos c1, if_pos c1]
    exact ⟨_, rfl⟩
  rw [if_neg c1, if_neg c1]
  by_cases c2 : y ≤ 15
  case neg =>
    rw [if_neg c2, if_neg c2]
    exact ⟨_, rfl⟩
  rw [if_pos c2, if_pos c2, cond_true]
  have c0 : ¬ y < 0 := fun q => c1 (by
    rw [Int32.lt_iff_toInt_lt] at q ⊢
    have h1 : (0 : Int32).toInt = 0 := by decide
    have h2 : (1 : Int32).toInt = 1 := by decide
    omega)
  obtain ⟨v, hv, rfl⟩ := nI_of2 (M := 15) (n := 15) rfl c0 c2
  obtain ⟨nx1, wy1, e1⟩ := X6_collapse (wy := ew) (nx := en) W X.1 hp hv
  obtain ⟨nx2, wy2, e2⟩ := M_collapseS (wy := mw) (nx := mf) W V.1 hp hv
  rw [e1, e2]
  simp only [oi, oh, uc3, uc4, lb_eq, gd01, updL_eq', p10_thrown, if_true]
  exact ⟨_, rfl⟩
end RAE
