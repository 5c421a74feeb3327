/-! count, union, children, ancestors, descendants -/
theorem cnt_below {n : Nat} : ∀ k, n ≤ k → cnt (fun x => decide (x < n)) k = n := by
  intro k hk
  induction k with
  | zero => rw [Nat.le_zero.mp hk]; rfl
  | succ k ih =>
    rw [cnt_s]
    by_cases e : n = k + 1
    · rw [if_pos (decide_eq_true (by omega))]
      have : cnt (fun x => decide (x < n)) k = k := by
        rw [cnt_congr (g := fun _ => true) (fun i hi => decide_eq_true (by omega))]
        clear ih hk e
        induction k with
        | zero => rfl
        | succ k ih => rw [cnt_s, ih, if_pos rfl]
      omega
    · rw [ih (by omega), if_neg (by simp; omega), Nat.add_zero]
section RAB
variable {n u : Nat} {pr a b g lc : Nat → Nat} {lt : Nat → Nat → Nat} {an : Nat → Nat → Bool} {yr uy : Nat → Int32} {pl : Nat → Nat} {bx : Nat → Nat → Nat} {fam : Nat → Int64} {o : Nat → Int64} {lA letters py pu fp sp uY ge am lv rf od rs po fb sb bA gM lM ro rS cA fc mc : Nat → Int32} {it : Nat → Bool} {pc uc rc R : Int32} {nL : Nat} {xs : Nat → Int32} {v4 : Int32}
theorem R3 (G : GDV nL v4) (I : FR pc uc rc lA letters py pu fp sp uY ge am lv rf od rs po fb sb fam) : ∃ z, pL_3 nL xs v4 pc uc rc pu fp sp rs fam gM lM rS ro it bA = some z := by
  obtain ⟨n, lc, lt, yr, rfl, hC, hX, u, pr, a, b, g, an, uy, pl, bx, rfl, rfl, U, X, V, P⟩ := I
  have W := U.1
  have hn := W.n16
  have hu := W.u12
  unfold pL_3 p9_count p10_count
  simp only [gd1 G]
  generalize xs (v4 + 1).toNatClampNeg = x
  obtain ⟨bA', gM', it', lM', ro', rS', e0, Gx, B, BAx⟩ := M_lay (bA := bA) (ge := gM) (it := it) (lv := lM) (ro := ro) (rs := rS) W V.1 V.2.1 U.2.2
  rw [e0]
  simp only [ob, uc7]
  have hb := X7_boxCount W X.2.2.2.1
  have hm0 := M_boxCountL (it := it') (f := th n u a b g) (fun x hx => (B.1 x hx).1) (k := 0) (by omega)
  have hm16 := M_boxCountL (it := it') (f := th n u a b g) (fun x hx => (B.1 x hx).1) (k := 16) (by omega)
  have h16 : cnt (th n u a b g) 16 = n := by
    rw [cnt_congr (g := fun x => decide (x < n)) (fun i hi => th_p hi)]
    exact cnt_below 16 hn
  have hle : cnt (th n u a b g) 16 ≤ cnt (th n u a b g) 28 := cnt_mono (by omega)
  by_cases c0 : x = 0
  · rw [if_pos c0, if_pos c0, M_persons V.1]
    simp only [ob, uc9, if_true]
    exact ⟨_, rfl⟩
  rw [if_neg c0, if_neg c0]
  by_cases c1 : x = 1
  · rw [if_pos c1, if_pos c1, M_unions V.1]
    simp only [ob, uc9, if_true]
    exact ⟨_, rfl⟩
  rw [if_neg c1, if_neg c1]
  by_cases c2 : x = 2
  · rw [if_pos c2, if_pos c2]
    simp only [uc9, if_true]
    exact ⟨_, rfl⟩
  rw [if_neg c2, if_neg c2]
  by_cases c3 : x = 3
  · rw [if_pos c3, if_pos c3, hb, n0, hm0, show cnt (th n u a b g) 0 = 0 from rfl, Nat.sub_zero]
    simp only [ob, uc9, if_true]
    exact ⟨_, rfl⟩
  rw [if_neg c3, if_neg c3]
  by_cases c4 : x = 4
  · rw [if_pos c4, if_pos c4, hb, n16, hm16, h16, nI_sub (by omega)]
    simp only [ob, uc9, if_true]
    exact ⟨_, rfl⟩
  rw [if_neg c4, if_neg c4]
  by_cases c5 : x = 5
  · rw [if_pos c5, if_pos c5, X1_noParents W X.1, M_noParents W V.1]
    simp only [ob, uc9, if_true]
    exact ⟨_, rfl⟩
  rw [if_neg c5, if_neg c5]
  by_cases c6 : x = 6
  · rw [if_pos c6, if_pos c6, X1_noKids W X.1, M_noKids W V.1]
    simp only [ob, uc9, if_true]
    exact ⟨_, rfl⟩
  rw [if_neg c6, if_neg c6]
  simp only [uc9, if_true]
  exact ⟨_, rfl⟩
theorem M_union3 (V : UM n u pr a b g uy pl fam) {w : Nat} (hu : u ≤ 12) (hw : w < u) : (∀ k, k < 3 → gd ((66 : Int32) + (3 : Int32) * nI w + nI k) 130 (some (0 : Int32)) = some 0) ∧ (∀ k, k < 3 → ((66 : Int32) + (3 : Int32) * nI w + nI k).toNatClampNeg = 66 + 3 * w + k) := by
  refine ⟨fun k hk => ?_, fun k hk => ?_⟩
  · rw [n66, n3, nI_mul, nI_add, nI_add, gd_in (by omega) (by omega)]
  · rw [n66, n3, nI_mul, nI_add, nI_add, nI_clamp (by omega)]
theorem R5 (G : GDV nL v4) (I : FR pc uc rc lA letters py pu fp sp uY ge am lv rf od rs po fb sb fam) : ∃ z, pL_5 nL xs v4 pc uc rc lA pu fp sp uY lv rf od rs po fb sb fc mc R fam gM lM rS ro it bA cA o = some z := by
  obtain ⟨n, lc, lt, yr, rfl, hC, hX, u, pr, a, b, g, an, uy, pl, bx, rfl, rfl, U, X, V, P⟩ := I
  have W := U.1
  have hn := W.n16
  have hu := W.u12
  unfold pL_5 pL_union p9_union p10_union
  simp only [gd1 G, gd2 G]
  generalize xs (v4 + 1).toNatClampNeg = x
  generalize xs (v4 + 2).toNatClampNeg = y
  rcases reqUnion x hu with ⟨w, hw, rfl, ex⟩ | ⟨hx, ex⟩
  case inr =>
    rw [ex, M_isNU V.1 hu hx]
    exact ⟨_, rfl⟩
  rw [ex, M_isU V.1 hu hw]
  simp only [ox, ob, cond_true]
  obtain ⟨m1, m2, -⟩ := W.par hw
  have q66 : ∀ k, (66 : Int32) + (3 : Int32) * nI w + nI k = nI (66 + 3 * w + k) := fun k => by rw [n66, n3, nI_mul, nI_add, nI_add]
  rcases idx_cases y 7 (by omega) with ⟨k, hk, rfl⟩ | hy
  · rw [show p10_inRange (nI k).toInt64 0 6 = true from inRange_in (n := 7) hk (by omega), cond_true]
    obtain ⟨bA', cA', gM', it', lM', ro', rS', e0, ⟨Gx, B, BAx⟩, CMx⟩ := M_layColumns (bA := bA) (cA := cA) (ge := gM) (it := it) (lv := lM) (ro := ro) (rS := rS) W V.1 V.2.1 P.1 hC.1 U.2.2
    rw [e0]
    simp only [uc8]
    have hk' : k = 0 ∨ k = 1 ∨ k = 2 ∨ k = 3 ∨ k = 4 ∨ k = 5 ∨ k = 6 := by omega
    rcases hk' with rfl | rfl | rfl | rfl | rfl | rfl | rfl
    · rw [if_pos (by decide), if_neg (by decide), if_neg (by decide), if_neg (by decide), if_neg (by decide), q66, gd_in (by omega) (by omega), nI_clamp (by omega), X.1.at_fp hu hw]
      rw [show fam (66 + 3 * w + 0) = lN (a w) from (V.1.2.2.2 w hw).1, lN_i]
      simp only [oi, oh, lb_eq, ob, uc2, uc3, uc4, uc10, gd01, updL_eq', p10_thrown, if_true]
      exact ⟨_, rfl⟩
    · rw [if_neg (by decide), if_pos (by decide), if_neg (by decide), if_neg (by decide), if_neg (by decide), if_neg (by decide), q66, gd_in (by omega) (by omega), nI_clamp (by omega), X.1.at_sp hu hw, (V.1.2.2.2 w hw).2, lN_i]
      simp only [oi, oh, lb_eq, ob, uc2, uc3, uc4, uc10, gd01, updL_eq', p10_thrown, if_true]
      exact ⟨_, rfl⟩
    · rw [if_neg (by decide), if_neg (by decide), if_pos (by decide), if_neg (by decide), if_neg (by decide), if_neg (by decide), if_neg (by decide), q66, gd_in (by omega) (by omega), nI_clamp (by omega), at_in (by omega) (by omega), V.2.2 w hw, X.2.1 w hw, Int32.toInt32_toInt64]
      simp only [oi, oh, lb_eq, ob, uc2, uc3, uc4, uc10, gd01, updL_eq', p10_thrown, if_true]
      exact ⟨_, rfl⟩
    · rw [if_neg (by decide), if_neg (by decide), if_neg (by decide), if_pos (by decide), if_pos (by decide), gd_in (by omega) (by omega), nI_clamp (by omega), at_in (by omega) (by omega), (X.2.2.1.2 w hw).1, Gx.2 w hw]
      simp only [oi, oh, lb_eq, ob, uc2, uc3, uc4, uc10, gd01, updL_eq', p10_thrown, if_true]
      exact ⟨_, rfl⟩
    · rw [if_neg (by decide), if_neg (by decide), if_neg (by decide), if_neg (by decide), if_pos (by decide), if_neg (by decide), if_pos (by decide), X1_childMask W X.1 (by omega), M_childMask W V.1 (by omega)]
      simp only [ob]
      rw [X_count, M_count]
      simp only [oi, oh, lb_eq, ob, uc2, uc3, uc4, uc10, gd01, updL_eq', p10_thrown, if_true]
      exact ⟨_, rfl⟩
    · rw [if_neg (by decide), if_neg (by decide), if_neg (by decide), if_neg (by decide), if_neg (by decide), if_pos (by decide), if_neg (by decide), if_neg (by decide), if_pos (by decide), X7_middleOf W X.2.2.2.2.2.1 X.2.2.2.2.2.2 hw, M_middle W V.1 Gx V.2.1 hw]
      simp only [oi, oh, lb_eq, ob, uc2, uc3, uc4, uc10, gd01, updL_eq', p10_thrown, if_true]
      exact ⟨_, rfl⟩
    · obtain ⟨fc', mc', e1, CXx⟩ := X0_layOut (fc := fc) (mc := mc) W X.1 (fun w hw => (X.2.2.1.2 w hw).2) hX.1 hC.1 X.2.2.2 U.2.2
      obtain ⟨a1, a2, a3⟩ := bxa_ok W hw
      obtain ⟨b1, b2, b3⟩ := bxb_ok W hw
      have CBf := call_CB (r := rowsN g n) (c := fun _ => 0) (pr := pr) W hC.1 U.2.2
      rw [if_neg (by decide), if_neg (by decide), if_neg (by decide), if_neg (by decide), if_neg (by decide), if_neg (by decide), if_pos (by decide), if_neg (by decide), if_neg (by decide), if_neg (by decide), if_pos (by decide), e1, M_unionColumn W V.1 Gx P.1 hC.1 U.2.2 CBf CMx hw (dn_all W a1 a2) (dn_all W b1 b2) (Nat.le_refl _)]
      simp only [oi, oh, lb_eq, ob, uc2, uc3, uc4, uc10, gd01]
      rw [X0_union W hC.1 U.2.2 CBf CXx X.2.2.2.2.2.2 hw (dn_all W a1 a2) (dn_all W b1 b2) (Nat.le_refl _)]
      simp only [updL_eq', p10_thrown, if_true]
      exact ⟨_, rfl⟩
  · rw [show p10_inRange y.toInt64 0 6 = false from inRange_out (n := 7) hy (by omega), cond_false, if_neg (show ¬ y = 0 from out_ne (k := 0) hy (by omega) (by omega)), if_neg (show ¬ y = 1 from out_ne (k := 1) hy (by omega) (by omega)), if_neg (show ¬ y = 2 from out_ne (k := 2) hy (by omega) (by omega)), if_neg (show ¬ y = 3 from out_ne (k := 3) hy (by omega) (by omega)), if_neg (show ¬ y = 4 from out_ne (k := 4) hy (by omega) (by omega)), if_neg (show ¬ y = 5 from out_ne (k := 5) hy (by omega) (by omega)), if_neg (show ¬ y = 6 from out_ne (k := 6) hy (by omega) (by omega))]
    exact ⟨_, rfl⟩
theorem R6 (G : GDV nL v4) (I : FR pc uc rc lA letters py pu fp sp uY ge am lv rf od rs po fb sb fam) : ∃ z, pL_6 nL xs v4 pc uc pu fam o = some z := by
  obtain ⟨n, lc, lt, yr, rfl, hC, hX, u, pr, a, b, g, an, uy, pl, bx, rfl, rfl, U, X, V, P⟩ := I
  have W := U.1
  have hn := W.n16
  have hu := W.u12
  unfold pL_6 pL_children p9_children p10_children
  simp only [gd1 G]
  generalize xs (v4 + 1).toNatClampNeg = x
  rcases reqUnion x hu with ⟨w, hw, rfl, ex⟩ | ⟨hx, ex⟩
  case inr =>
    rw [ex, M_isNU V.1 hu hx]
    exact ⟨_, rfl⟩
  rw [ex, M_isU V.1 hu hw, X1_childMask W X.1 (by omega), M_childMask W V.1 (by omega)]
  simp only [ox, cond_true, oi, oh, lb_eq, ob, uc2, gd01, updL_eq', p10_thrown, if_true]
  exact ⟨_, rfl⟩
theorem am_mkm (W : WF n u pr a b g) (AN : ANC n pr a b an) (Q : RF n u a b g an ge am lv rf) {p : Nat} (hp : p < n) : am p = mkm (an p) := mkm_eq fun q => by
  have hn := W.n16
  rw [(Q.1 p hp).2 q]
  by_cases h : an p q = true
  · have := ANC.lt W AN (g p + 1) p q (by omega) hp h
    rw [h, decide_eq_true (by omega)]; rfl
  · rw [Bool.not_eq_true] at h
    rw [h, Bool.and_false]
theorem R7 (G : GDV nL v4) (I : FR pc uc rc lA letters py pu fp sp uY ge am lv rf od rs po fb sb fam) : ∃ z, pL_7 nL xs v4 pc am fam o = some z := by
  obtain ⟨n, lc, lt, yr, rfl, hC, hX, u, pr, a, b, g, an, uy, pl, bx, rfl, rfl, U, X, V, P⟩ := I
  have W := U.1
  have hn := W.n16
  unfold pL_7 pL_ancestors p9_ancestors p10_ancestors
  simp only [gd1 G]
  generalize xs (v4 + 1).toNatClampNeg = x
  rcases reqPerson (fam := fam) x hn with ⟨p, hp, rfl, ex, -⟩ | ⟨hx, ex⟩
  case inr =>
    rw [ex, M_isNP V.1 hn hx]
    exact ⟨_, rfl⟩
  rw [ex, M_isP V.1 hn hp, at_in (by omega) (by omega), am_mkm W U.2.1 X.2.2.1 hp, M_ancestorMask W U.2.1 V.1 hp]
  simp only [ox, cond_true, oi, oh, lb_eq, ob, uc2, gd01, updL_eq', p10_thrown, if_true]
  exact ⟨_, rfl⟩
theorem R8 (G : GDV nL v4) (I : FR pc uc rc lA letters py pu fp sp uY ge am lv rf od rs po fb sb fam) : ∃ z, pL_8 nL xs v4 pc am fam o = some z := by
  obtain ⟨n, lc, lt, yr, rfl, hC, hX, u, pr, a, b, g, an, uy, pl, bx, rfl, rfl, U, X, V, P⟩ := I
  have W := U.1
  have hn := W.n16
  unfold pL_8 pL_descendants p9_descendants p10_descendants
  simp only [gd1 G]
  generalize xs (v4 + 1).toNatClampNeg = x
  rcases reqPerson (fam := fam) x hn with ⟨p, hp, rfl, ex, -⟩ | ⟨hx, ex⟩
  case inr =>
    rw [ex, M_isNP V.1 hn hx]
    exact ⟨_, rfl⟩
  rw [ex, M_isP V.1 hn hp, X1_desc W X.2.2.1.1 hp, M_desc W U.2.1 V.1 hp]
  simp only [ox, cond_true, oi, oh, lb_eq, ob, uc2, gd01, updL_eq', p10_thrown, if_true]
  exact ⟨_, rfl⟩
end RAB
