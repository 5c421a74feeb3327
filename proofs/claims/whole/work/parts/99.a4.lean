/-! crossingsIf, width, strips, cutBoxes, formattedByte -/
def FI (pc uc rc : Int32) (lA letters py pu fp sp uY ge am lv rf od rs po fb sb : Nat → Int32) (fam : Nat → Int64) (hc : Nat → Int32) (next held : Int32) (mh : Nat → Int64) (uH : Int32) (kept : Bool) (ms : Nat → Int64) (has : Bool) : Prop :=
  ∃ n lc lt yr, pc = nI n ∧ PC n lc lt ∧ PX n lc lt yr lA letters py ∧ FS n lc lt yr uc rc pu fp sp uY ge am lv rf od rs po fb sb fam ∧ HIS n lc lt yr hc next held mh uH ∧ SNP n lc lt yr hc kept ms has
section RAD
variable {n u : Nat} {pr a b g lc : Nat → Nat} {lt : Nat → Nat → Nat} {an : Nat → Nat → Bool} {yr uy : Nat → Int32} {pl : Nat → Nat} {bx : Nat → Nat → Nat} {fam mh ms : Nat → Int64} {o : Nat → Int64} {hc line mline text fmt lA letters py pu fp sp uY ge am lv rf od rs po fb sb bA gM lM ro rS cA fc mc : Nat → Int32} {it : Nat → Bool} {kept has : Bool} {pc uc rc R next held uH len mlen tl fl : Int32} {nL : Nat} {xs : Nat → Int32} {v4 : Int32}
theorem FI.FR (I : FI pc uc rc lA letters py pu fp sp uY ge am lv rf od rs po fb sb fam hc next held mh uH kept ms has) : FR pc uc rc lA letters py pu fp sp uY ge am lv rf od rs po fb sb fam := by
  obtain ⟨n, lc, lt, yr, h1, h2, h3, h4, -⟩ := I
  exact ⟨n, lc, lt, yr, h1, h2, h3, h4⟩
theorem R19 (G : GDV nL v4) (I : FI pc uc rc lA letters py pu fp sp uY ge am lv rf od rs po fb sb fam hc next held mh uH kept ms has) :
    ∃ bA' gM' it' lM' fam' ro' rS' R' t' o' od' po', pL_19 nL xs v4 uc rc pu lv od rs po fb sb fam gM lM rS ro it bA o = some (bA', gM', it', lM', fam', ro', rS', R', t', o', od', po') ∧
      FI pc uc rc lA letters py pu fp sp uY ge am lv rf od' rs po' fb sb fam' hc next held mh uH kept ms has := by
  obtain ⟨n, lc, lt, yr, rfl, hC, hX, F0, H, S⟩ := I
  have F00 := F0
  obtain ⟨u, pr, a, b, g, an, uy, pl, bx, rfl, rfl, U, X, V, P⟩ := F0
  have W := U.1
  have hn := W.n16
  have hu := W.u12
  have hR := rows16 W
  unfold pL_19 pL_crossingsIf p9_crossingsIf p10_crossingsIf
  simp only [gd1 G, gd2 G, gd3 G]
  generalize xs (v4 + 1).toNatClampNeg = x
  generalize xs (v4 + 2).toNatClampNeg = y
  generalize xs (v4 + 3).toNatClampNeg = z
  obtain ⟨bA', gM', it', lM', ro', rS', e0, Gx, B, BAx⟩ := M_lay (bA := bA) (ge := gM) (it := it) (lv := lM) (ro := ro) (rs := rS) W V.1 V.2.1 U.2.2
  rw [e0]
  simp only [ob, uc7]
  rcases reqPlace W X.2.2.2.1 B.2 x y with ⟨r, i, hr, hi, rfl, rfl, e1, e2⟩ | ⟨e1, e2⟩
  case inr =>
    rw [e1, e2]
    exact ⟨bA', gM', it', lM', fam, ro', rS', nI (rowsN g n), 1, o, od, po, rfl, n, lc, lt, yr, rfl, hC, hX, F00, H, S⟩
  rw [e1, e2]
  simp only [ox, cond_true]
  rcases reqPlace W X.2.2.2.1 B.2 (nI r) z with ⟨r2, j, hr2, hj, e3, rfl, e4, e5⟩ | ⟨e4, e5⟩
  case inr =>
    rw [e4, e5]
    exact ⟨bA', gM', it', lM', fam, ro', rS', nI (rowsN g n), 1, o, od, po, rfl, n, lc, lt, yr, rfl, hC, hX, F00, H, S⟩
  have e3' : r2 = r := ((nI_eq (by omega) (by omega)).mp e3).symm
  subst e3'
  rw [e4, e5]
  simp only [cond_true]
  obtain ⟨od1, po1, e6, R1⟩ := X7_exchange W X.2.2.2 U.2.2 hr hi hj
  obtain ⟨bA1, fam1, e7, M1⟩ := M_swap (fam0 := fam) W ⟨BAx, V.2.1, V.1, fun _ _ => rfl⟩ U.2.2 hr hi hj
  have L1 := LAY.swap U.2.2 hi hj
  obtain ⟨od2, po2, e8, R2⟩ := X7_exchange W R1 L1 hr hi hj
  obtain ⟨bA2, fam2, e9, M2⟩ := M_swap W M1 L1 hr hi hj
  have L2 := LAY.swap L1 hi hj
  refine ⟨bA2, gM', it', lM', fam2, ro', rS', nI (rowsN g n), 0, vp_updL o (0 : Int32).toNatClampNeg (nI (tot n u pr a b g (plS bx r2 i j pl))).toInt64, od2, po2, ?_, n, lc, lt, yr, rfl, hC, hX, ⟨u, pr, a, b, g, an, uy, _, _, rfl, rfl, ⟨W, U.2.1, L2⟩, ⟨X.1, X.2.1, X.2.2.1, R2⟩, MPS.UM V hu M2, P.congr hn fun k hk => M2.2.2.2 k (by omega)⟩, H, S⟩
  rw [e7]
  simp only [lb_eq]
  rw [e6]
  simp only [uc2]
  rw [X7_all W X.1 (fun w hw => (X.2.2.1.2 w hw).1) R1 L1, M_all W M1.2.2.1 Gx M1.2.1 L1]
  simp only [oi]
  rw [e8, e9]
  simp only [uc3, uc4, uc10, oh, gd01, updL_eq', p10_thrown, if_true]
theorem R20 (I : FR pc uc rc lA letters py pu fp sp uY ge am lv rf od rs po fb sb fam) (B0 : LB line len) :
    ∃ fc' mc' bA' cA' gM' it' lM' ml' mn' ro' rS' R' t' line' len', pL_20 pc uc rc len letters lA pu ge lv rf od rs fb sb fc mc line mlen fam gM lM rS ro it bA cA mline = some (fc', mc', bA', cA', gM', it', lM', ml', mn', ro', rS', R', t', line', len') ∧ LB line' len' := by
  obtain ⟨n, lc, lt, yr, rfl, hC, hX, u, pr, a, b, g, an, uy, pl, bx, rfl, rfl, U, X, V, P⟩ := I
  have W := U.1
  obtain ⟨fc', mc', e3, CXx⟩ := X0_layOut (fc := fc) (mc := mc) W X.1 (fun w hw => (X.2.2.1.2 w hw).2) hX.1 hC.1 X.2.2.2 U.2.2
  obtain ⟨line', len', e4, B'⟩ := X4_widest (lt := lt) W X.1 X.2.2.1 hX.1 hX.2.1 hC.1 X.2.2.2 U.2.2 CXx B0
  obtain ⟨bA', cA', gM', it', lM', ml', mn', ro', rS', e5, -, -⟩ := M_chartWidth (len := mlen) (line := mline) (bA := bA) (cA := cA) (ge := gM) (it := it) (lv := lM) (ro := ro) (rS := rS) W V.1 V.2.1 P.1 P.2.1 hC.1 hC.2 U.2.2
  refine ⟨fc', mc', bA', cA', gM', it', lM', ml', mn', ro', rS', nI (rowsN g n), 0, line', len', ?_, B'⟩
  unfold pL_20 p9_width p10_width
  rw [e3]
  simp only [ob, uc2]
  rw [e4, e5]
  simp only [uc3, uc5, uc11, uc12, if_true]
theorem reqWidth (x : Int32) : (∃ v, 10 ≤ v ∧ v ≤ 200 ∧ x = nI v ∧ p9_requireStripWidth x = some (.inr ()) ∧ p10_isWidth x = true) ∨ (p9_requireStripWidth x = some (.inl 2) ∧ p10_isWidth x = false) := by
  unfold p9_requireStripWidth p10_isWidth
  rw [show p10_inRange x.toInt64 10 200 = _ from inR x 10 200]
  by_cases c1 : x < 10
  · exact Or.inr ⟨by rw [if_pos c1], by rw [if_pos c1]⟩
  · rw [if_neg c1, if_neg c1]
    by_cases c2 : x ≤ 200
    · rw [if_pos c2, if_pos c2]
      have c0 : ¬ x < 0 := fun q => c1 (by
        rw [Int32.lt_iff_toInt_lt] at q ⊢
        have h1 : (0 : Int32).toInt = 0 := by decide
        have h2 : (10 : Int32).toInt = 10 := by decide
        omega)
      obtain ⟨v, hv, rfl⟩ := nI_of2 (M := 200) (n := 200) rfl c0 c2
      refine Or.inl ⟨v, ?_, hv, rfl, rfl, rfl⟩
      rw [n10, nI_ltI (by omega) (by omega)] at c1
      omega
    · rw [if_neg c2, if_neg c2]
      exact Or.inr ⟨rfl, rfl⟩
theorem R23 (G : GDV nL v4) (I : FR pc uc rc lA letters py pu fp sp uY ge am lv rf od rs po fb sb fam) (B0 : LB line len) :
    ∃ fc' mc' bA' cA' gM' it' lM' ml' mn' ro' rS' R' t' o' line' len', pL_23 nL xs v4 pc uc rc len letters lA pu ge lv rf od rs fb sb fc mc line R mlen fam gM lM rS ro it bA cA mline o = some (fc', mc', bA', cA', gM', it', lM', ml', mn', ro', rS', R', t', o', line', len') ∧ LB line' len' := by
  obtain ⟨n, lc, lt, yr, rfl, hC, hX, u, pr, a, b, g, an, uy, pl, bx, rfl, rfl, U, X, V, P⟩ := I
  have W := U.1
  unfold pL_23 pL_strips p9_strips p10_strips
  simp only [gd1 G]
  generalize xs (v4 + 1).toNatClampNeg = x
  rcases reqWidth x with ⟨v, h1, h2, rfl, e1, e2⟩ | ⟨e1, e2⟩
  case inr =>
    rw [e1, e2]
    exact ⟨fc, mc, bA, cA, gM, it, lM, mline, mlen, ro, rS, R, 1, o, line, len, rfl, B0⟩
  obtain ⟨fc', mc', e3, CXx⟩ := X0_layOut (fc := fc) (mc := mc) W X.1 (fun w hw => (X.2.2.1.2 w hw).2) hX.1 hC.1 X.2.2.2 U.2.2
  obtain ⟨line', len', e4, B'⟩ := X4_widest (lt := lt) W X.1 X.2.2.1 hX.1 hX.2.1 hC.1 X.2.2.2 U.2.2 CXx B0
  obtain ⟨bA', cA', gM', it', lM', ml', mn', ro', rS', e5, -, -⟩ := M_chartWidth (len := mlen) (line := mline) (bA := bA) (cA := cA) (ge := gM) (it := it) (lv := lM) (ro := ro) (rS := rS) W V.1 V.2.1 P.1 P.2.1 hC.1 hC.2 U.2.2
  rw [e1, e2, cond_true, e5]
  simp only [ox, ob, uc11]
  rw [e3]
  simp only [uc2]
  rw [e4]
  simp only [uc3]
  rw [gz_nI (by omega) (by omega), gz_nI (by omega) (by omega)]
  simp only [oi, oh, uc5, uc6, uc12, lb_eq, gd01, updL_eq', p10_thrown, if_true]
  exact ⟨_, _, _, _, _, _, _, _, _, _, _, _, _, _, _, _, rfl, B'⟩
theorem R24 (G : GDV nL v4) (I : FR pc uc rc lA letters py pu fp sp uY ge am lv rf od rs po fb sb fam) : ∃ z, pL_24 nL xs v4 rc lA pu rf od rs fb sb fc mc R fam gM lM rS ro it bA cA o = some z := by
  obtain ⟨n, lc, lt, yr, rfl, hC, hX, u, pr, a, b, g, an, uy, pl, bx, rfl, rfl, U, X, V, P⟩ := I
  have W := U.1
  unfold pL_24 pL_cutBoxes p9_cutBoxes p10_cutBoxes
  simp only [gd1 G]
  generalize xs (v4 + 1).toNatClampNeg = x
  rcases reqWidth x with ⟨v, h1, h2, rfl, e1, e2⟩ | ⟨e1, e2⟩
  case inr =>
    rw [e1, e2]
    exact ⟨_, rfl⟩
  obtain ⟨fc', mc', e3, CXx⟩ := X0_layOut (fc := fc) (mc := mc) W X.1 (fun w hw => (X.2.2.1.2 w hw).2) hX.1 hC.1 X.2.2.2 U.2.2
  obtain ⟨bA', cA', gM', it', lM', ro', rS', e0, ⟨Gx, B, BAx⟩, CMx⟩ := M_layColumns (bA := bA) (cA := cA) (ge := gM) (it := it) (lv := lM) (ro := ro) (rS := rS) W V.1 V.2.1 P.1 hC.1 U.2.2
  have hcol : ∀ x, x < 28 → th n u a b g x = true → colF n u pr a b g lc bx x + wd a b g lc x < 1000 := fun x hx ht => by
    have := colF_le W hC.1 U.2.2 x hx ht
    unfold wd
    omega
  rw [e1, e2, cond_true, e0]
  simp only [ox, ob, uc8]
  rw [e3]
  simp only [uc2]
  rw [X0_countCut W (fun w hw => (X.2.2.1.2 w hw).2) hX.1 X.2.2.2 U.2.2 (v := v) (col := colF n u pr a b g lc bx) (by omega) (by omega) (fun x hx ht => (CXx x (dn_all W hx ht)).1) hcol, n0, M_cut W V.1 Gx (fun x hx => (B.1 x hx).1) P.1 (v := v) (col := colF n u pr a b g lc bx) (by omega) (by omega) (fun x hx ht => CMx x (dn_all W hx ht)) hcol]
  simp only [p10_cutBoxes_J82]
  rw [← n0]
  simp only [oi, oh, uc3, uc4, uc10, lb_eq, gd01, updL_eq', p10_thrown, if_true]
  exact ⟨_, rfl⟩
theorem R22 (G : GDV nL v4) (T : TX text tl fmt fl) : ∃ z, pL_22 nL xs v4 tl text fl fmt = some z := by
  unfold pL_22
  simp only [gd1 G]
  rw [TX_byte T]
  simp only [ob, uc2, if_true]
  exact ⟨_, rfl⟩
end RAD
