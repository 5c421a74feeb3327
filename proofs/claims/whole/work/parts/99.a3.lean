/-! boxes, box, place, crossings, crossingsOf, crossingsIf -/
section RAC
variable {n u : Nat} {pr a b g lc : Nat → Nat} {lt : Nat → Nat → Nat} {an : Nat → Nat → Bool} {yr uy : Nat → Int32} {pl : Nat → Nat} {bx : Nat → Nat → Nat} {fam : Nat → Int64} {o : Nat → Int64} {lA letters py pu fp sp uY ge am lv rf od rs po fb sb bA gM lM ro rS cA fc mc : Nat → Int32} {it : Nat → Bool} {pc uc rc R : Int32} {nL : Nat} {xs : Nat → Int32} {v4 : Int32}
theorem reqRow (W : WF n u pr a b g) (x : Int32) :
    (∃ r, r < rowsN g n ∧ x = nI r ∧ p9_requireRow (nI (rowsN g n)) x = some (.inr ()) ∧ p10_isRow (nI (rowsN g n)) x = true) ∨
    (p9_requireRow (nI (rowsN g n)) x = some (.inl 1) ∧ p10_isRow (nI (rowsN g n)) x = false) := by
  have hR := rows16 W
  have h1 : (1 : Int64) = lN 1 := rfl
  unfold p9_requireRow p10_isRow
  rw [nI_l (by omega)]
  rcases idx_cases x (rowsN g n) (by omega) with ⟨r, hr, rfl⟩ | h
  · exact Or.inl ⟨r, hr, rfl, by rw [n0, if_neg (nI_nlt (by omega) (by omega)), if_pos (nI_lt hr (by omega))]; rfl, inRange_in hr (by omega)⟩
  · refine Or.inr ⟨?_, inRange_out h (by omega)⟩
    by_cases c : x < 0
    · rw [if_pos c]
    · rw [if_neg c, if_neg]
      rcases h with h | h
      · exact absurd h c
      · obtain ⟨j, hj, rfl⟩ := nI_of c
        rw [nI_leI (by omega) hj] at h
        exact nI_nlt h hj
theorem R14 (G : GDV nL v4) (I : FR pc uc rc lA letters py pu fp sp uY ge am lv rf od rs po fb sb fam) : ∃ z, pL_14 nL xs v4 rc rs fam gM lM rS ro it bA o = some z := by
  obtain ⟨n, lc, lt, yr, rfl, hC, hX, u, pr, a, b, g, an, uy, pl, bx, rfl, rfl, U, X, V, P⟩ := I
  have W := U.1
  have hR := rows16 W
  unfold pL_14 pL_boxes p9_boxes p10_boxes
  simp only [gd1 G]
  generalize xs (v4 + 1).toNatClampNeg = x
  obtain ⟨bA', gM', it', lM', ro', rS', e0, Gx, B, BAx⟩ := M_lay (bA := bA) (ge := gM) (it := it) (lv := lM) (ro := ro) (rs := rS) W V.1 V.2.1 U.2.2
  rw [e0]
  simp only [ob, uc7]
  rcases reqRow W x with ⟨r, hr, rfl, e1, e2⟩ | ⟨e1, e2⟩
  case inr =>
    rw [e1, e2]
    exact ⟨_, rfl⟩
  rw [e1, e2, X7_boxCountOf W X.2.2.2.1 hr, cond_true, gd_in (by omega) (by omega), nI_clamp (by omega), B.2 r (by omega)]
  simp only [ox, cond_true, oi, oh, lb_eq, ob, uc2, uc9, gd01, updL_eq', p10_thrown, if_true]
  exact ⟨_, rfl⟩
theorem R15 (G : GDV nL v4) (I : FR pc uc rc lA letters py pu fp sp uY ge am lv rf od rs po fb sb fam) : ∃ z, pL_15 nL xs v4 rc lA pu rf od rs fb sb fc mc fam gM lM rS ro it bA cA o = some z := by
  obtain ⟨n, lc, lt, yr, rfl, hC, hX, u, pr, a, b, g, an, uy, pl, bx, rfl, rfl, U, X, V, P⟩ := I
  have W := U.1
  have hR := rows16 W
  have hn := W.n16
  have hu := W.u12
  unfold pL_15 pL_box p9_box p10_box
  simp only [gd1 G, gd2 G, gd3 G]
  generalize xs (v4 + 1).toNatClampNeg = x
  generalize xs (v4 + 2).toNatClampNeg = y
  generalize xs (v4 + 3).toNatClampNeg = v
  obtain ⟨bA', cA', gM', it', lM', ro', rS', e0, ⟨Gx, B, BAx⟩, CMx⟩ := M_layColumns (bA := bA) (cA := cA) (ge := gM) (it := it) (lv := lM) (ro := ro) (rS := rS) W V.1 V.2.1 P.1 hC.1 U.2.2
  rw [e0]
  simp only [ob, uc8]
  rcases reqPlace W X.2.2.2.1 B.2 x y with ⟨r, i, hr, hi, rfl, rfl, e1, e2⟩ | ⟨e1, e2⟩
  case inr =>
    rw [e1, e2]
    exact ⟨_, rfl⟩
  obtain ⟨q1, q2, q3, q4⟩ := U.2.2.2 r i hi
  rw [e1, e2, X7_boxAt W X.2.2.2.1 X.2.2.2.2.1 hr hi]
  simp only [ox, cond_true, lb_eq]
  rcases idx_cases v 4 (by omega) with ⟨k, hk, rfl⟩ | hy
  · rw [show p10_inRange (nI k).toInt64 0 3 = true from inRange_in (n := 4) hk (by omega), cond_true, M_boxIn BAx hR W hr hi]
    simp only []
    have hk' : k = 0 ∨ k = 1 ∨ k = 2 ∨ k = 3 := by omega
    rcases hk' with rfl | rfl | rfl | rfl
    · rw [if_pos (by decide), if_pos (by decide), X7_personOf W (fun w hw => (X.2.2.1.2 w hw).2) q1 q2, M_personOf W V.1 Gx q1 q2]
      simp only [oi, oh, lb_eq, ob, uc2, uc3, uc4, uc10, gd01, updL_eq', p10_thrown, if_true]
      exact ⟨_, rfl⟩
    · rw [if_neg (by decide), if_pos (by decide), if_neg (by decide), if_pos (by decide)]
      unfold p9_unionOfReference
      by_cases c : bx r i < 16
      · have c' : ¬ (16 : Int32) ≤ nI (bx r i) := by rw [n16]; exact nI_ge c (by omega)
        rw [if_neg c', if_neg c']
        simp only [oi, oh, lb_eq, ob, uc2, uc3, uc4, uc10, gd01, updL_eq', p10_thrown, if_true]
        exact ⟨_, rfl⟩
      · have c' : (16 : Int32) ≤ nI (bx r i) := by rw [n16]; exact nI_le (by omega) (by omega)
        rw [if_pos c', if_pos c']
        simp only [oi, oh, lb_eq, ob, uc2, uc3, uc4, uc10, gd01, updL_eq', p10_thrown, if_true]
        exact ⟨_, rfl⟩
    · obtain ⟨fc', mc', e3, CXx⟩ := X0_layOut (fc := fc) (mc := mc) W X.1 (fun w hw => (X.2.2.1.2 w hw).2) hX.1 hC.1 X.2.2.2 U.2.2
      rw [if_neg (by decide), if_neg (by decide), if_pos (by decide), if_neg (by decide), if_neg (by decide), if_pos (by decide), e3, gd_in q1 (by omega), nI_clamp (by omega), CMx _ (dn_all W q1 q2)]
      simp only [oi, oh, lb_eq, ob, uc2, uc3, uc4, uc10, gd01]
      rw [at_in q1 (by omega), (CXx _ (dn_all W q1 q2)).1]
      simp only [updL_eq', p10_thrown, if_true]
      exact ⟨_, rfl⟩
    · rw [if_neg (by decide), if_neg (by decide), if_neg (by decide), if_pos (by decide), if_neg (by decide), if_neg (by decide), if_neg (by decide), X0_widthOf W (fun w hw => (X.2.2.1.2 w hw).2) hX.1 q1 q2, M_widthOf W V.1 Gx P.1 q1 q2]
      simp only [oi, oh, lb_eq, ob, uc2, uc3, uc4, uc10, gd01, updL_eq', p10_thrown, if_true]
      exact ⟨_, rfl⟩
  · rw [show p10_inRange v.toInt64 0 3 = false from inRange_out (n := 4) hy (by omega), cond_false, if_neg (show ¬ v = 0 from out_ne (k := 0) hy (by omega) (by omega)), if_neg (show ¬ v = 1 from out_ne (k := 1) hy (by omega) (by omega)), if_neg (show ¬ v = 2 from out_ne (k := 2) hy (by omega) (by omega)), if_neg (show ¬ v = 3 from out_ne (k := 3) hy (by omega) (by omega))]
    exact ⟨_, rfl⟩
theorem R16 (G : GDV nL v4) (I : FR pc uc rc lA letters py pu fp sp uY ge am lv rf od rs po fb sb fam) : ∃ z, pL_16 nL xs v4 pc po fam o = some z := by
  obtain ⟨n, lc, lt, yr, rfl, hC, hX, u, pr, a, b, g, an, uy, pl, bx, rfl, rfl, U, X, V, P⟩ := I
  have W := U.1
  have hn := W.n16
  unfold pL_16 pL_place p9_place p10_place
  simp only [gd1 G]
  generalize xs (v4 + 1).toNatClampNeg = x
  rcases reqPerson (fam := fam) x hn with ⟨p, hp, rfl, ex, -⟩ | ⟨hx, ex⟩
  case inr =>
    rw [ex, M_isNP V.1 hn hx]
    exact ⟨_, rfl⟩
  have ht : th n u a b g p = true := by rw [th_p (by omega)]; exact decide_eq_true hp
  rw [ex, M_isP V.1 hn hp, at_in (by omega) (by omega), X.2.2.2.2.2.1 p (by omega) ht, M_placeOf V.2.1 (by omega) ht]
  simp only [ox, cond_true, oi, oh, lb_eq, ob, uc2, gd01, updL_eq', p10_thrown, if_true]
  exact ⟨_, rfl⟩
theorem R17 (I : FR pc uc rc lA letters py pu fp sp uY ge am lv rf od rs po fb sb fam) : ∃ z, pL_17 uc rc pu lv od rs po fb sb fam gM lM rS ro it bA = some z := by
  obtain ⟨n, lc, lt, yr, rfl, hC, hX, u, pr, a, b, g, an, uy, pl, bx, rfl, rfl, U, X, V, P⟩ := I
  have W := U.1
  obtain ⟨bA', gM', it', lM', ro', rS', e0, Gx, B, BAx⟩ := M_lay (bA := bA) (ge := gM) (it := it) (lv := lM) (ro := ro) (rs := rS) W V.1 V.2.1 U.2.2
  unfold pL_17 p9_crossings p10_crossings
  rw [e0, X7_all W X.1 (fun w hw => (X.2.2.1.2 w hw).1) X.2.2.2 U.2.2]
  simp only [ob, uc7]
  rw [M_all W V.1 Gx V.2.1 U.2.2]
  simp only [uc9, if_true]
  exact ⟨_, rfl⟩
theorem R18 (G : GDV nL v4) (I : FR pc uc rc lA letters py pu fp sp uY ge am lv rf od rs po fb sb fam) : ∃ z, pL_18 nL xs v4 uc rc pu lv od rs po fb sb fam gM lM rS ro it bA o = some z := by
  obtain ⟨n, lc, lt, yr, rfl, hC, hX, u, pr, a, b, g, an, uy, pl, bx, rfl, rfl, U, X, V, P⟩ := I
  have W := U.1
  have hR := rows16 W
  obtain ⟨bA', gM', it', lM', ro', rS', e0, Gx, B, BAx⟩ := M_lay (bA := bA) (ge := gM) (it := it) (lv := lM) (ro := ro) (rs := rS) W V.1 V.2.1 U.2.2
  unfold pL_18 pL_18_J1254 pL_crossingsOf p9_crossingsOf p10_crossingsOf
  simp only [gd1 G, gd2 G]
  generalize xs (v4 + 1).toNatClampNeg = x
  rw [e0]
  simp only [ob, uc7]
  rcases reqRow W x with ⟨r, hr, rfl, e1, e2⟩ | ⟨e1, e2⟩
  case inr =>
    rw [e1, e2]
    split
    · exact ⟨_, rfl⟩
    · exact ⟨_, rfl⟩
  rw [e1, e2]
  split
  · rw [X7_countIn W (fun w hw => (X.2.2.1.2 w hw).1) X.2.2.2.2.2.1 X.2.2.2.2.2.2 U.2.2 (by omega), M_crossingsIn W V.1 Gx V.2.1 U.2.2 (by omega)]
    simp only [ox, cond_true, cond_false, oi, oh, lb_eq, ob, uc2, uc9, gd01, pL_18_J1280, updL_eq', p10_thrown, if_true]
    exact ⟨_, rfl⟩
  · rw [X7_countBelow W X.1 X.2.2.2 U.2.2 (by omega), M_crossingsBelow W V.1 Gx V.2.1 U.2.2 (by omega)]
    simp only [ox, cond_true, cond_false, oi, oh, lb_eq, ob, uc2, uc9, gd01, pL_18_J1280, updL_eq', p10_thrown, if_true]
    exact ⟨_, rfl⟩
end RAC
