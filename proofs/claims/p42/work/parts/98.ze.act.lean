/-! an act -/
section YACV
variable {n u : Nat} {pr a b g : Nat → Nat} {an : Nat → Nat → Bool} {uy : Nat → Int32} {pl : Nat → Nat} {bx : Nat → Nat → Nat} {pu fp sp uY ge am lv rf od rs po fb sb ks hc ge2 lv2 pn : Nat → Int32} {next held : Int32} {un od2 : Nat → Nat → Int32} {nu no : Nat} {ln : Nat → Nat} {h : Nat} {hs : Nat → STT} {t0 : STT}
theorem T_act (U : US n u pr a b g an pl bx) (X : UX n u pr a b g an uy pl bx pu fp sp uY ge am lv rf od rs po fb sb) (H : HISt n hc next held h hs) (S : SAVt n hc 810 t0) (F : OF n u pr a b pn un nu) (G : OG n u a b g ge2 lv2) (O : OO n u a b g bx ln od2 no) (hn0 : 0 < n) (v : Int32) :
    ∃ c t' h' hs' Z', pL_act (nI n) (nI u) (nI (rowsN g n)) next held (nI n) (nI u) (nI (rowsN g n)) am fp ge lv pu rf sp uY hc ge2 lv2 pn fb ks od po rs sb un nu ln od2 no v = some (nI c, Z') ∧ STP n t0 t' h' hs' Z' ∧ ACR (u, pr, a, b, g, an, uy, pl, bx) h hs c t' h' hs' := by
  have W := U.1
  have hn := W.n16
  have hu := W.u12
  have hR := rows16 W
  have hR0 : 0 < rowsN g n := Nat.lt_of_le_of_lt (Nat.zero_le _) (rowsN_lt (g := g) hn0)
  obtain ⟨k, hk, ek⟩ := M_most v (m := 11) (by omega) (by omega)
  obtain ⟨p, hp, ep⟩ := M_most (v >>> (4 &&& 31)) (m := n) hn0 (by omega)
  obtain ⟨q, hq, eq⟩ := M_most ((v >>> (4 &&& 31)) >>> (3 &&& 31)) (m := n) hn0 (by omega)
  unfold pL_act
  rw [show (11 : Int32) = nI 11 from rfl, ek]
  simp only [ob, lb_eq]
  rw [ep]
  simp only []
  rw [eq]
  simp only []
  by_cases a2 : 2 ≤ k
  case neg =>
    have h2 : ¬ (2 : Int32) ≤ nI k := by rw [n2]; exact nI_ge (by omega) (by omega)
    obtain ⟨z, hz, ez⟩ := M_most ((v >>> (4 &&& 31)) >>> (5 &&& 31)) (m := 2101) (by omega) (by omega)
    rw [if_neg h2, show (2101 : Int32) = nI 2101 from rfl, ez]
    exact T_marry U X H S F G O hp hq (by omega)
  have h2 : (2 : Int32) ≤ nI k := by rw [n2]; exact nI_le a2 (by omega)
  rw [if_pos h2]
  by_cases a4 : 4 ≤ k
  case neg =>
    have h4 : ¬ (4 : Int32) ≤ nI k := by rw [show (4 : Int32) = nI 4 from rfl]; exact nI_ge (by omega) (by omega)
    rw [if_neg h4]
    by_cases u0 : u = 0
    · rw [if_pos (by rw [u0]; rfl)]
      exact ⟨0, (u, pr, a, b, g, an, uy, pl, bx), h, hs, _, rfl, ⟨rfl, rfl, rfl, rfl, U, X, H, S, F, G, O⟩, Or.inr ⟨rfl, rfl, rfl, rfl⟩⟩
    · obtain ⟨w, hw, ew⟩ := M_most ((v >>> (4 &&& 31)) >>> (4 &&& 31)) (m := u) (by omega) (by omega)
      rw [if_neg (show ¬ nI u = (0 : Int32) from fun z => u0 ((nI_eq (a := u) (b := 0) (by omega) (by omega)).mp z)), ew]
      simp only []
      rw [gd_in (by omega) (by omega), nI_clamp (by omega)]
      exact T_adopt U X H S F G O hp hw
  have h4 : (4 : Int32) ≤ nI k := by rw [show (4 : Int32) = nI 4 from rfl]; exact nI_le a4 (by omega)
  rw [if_pos h4]
  by_cases e4 : k = 4
  · rw [if_pos (show nI k = 4 by rw [e4]; rfl), gd_in (by omega) (by omega), nI_clamp (show p < 2147483648 by omega)]
    exact T_release U X H S F G O hp
  rw [if_neg (show ¬ nI k = 4 from fun z => e4 ((nI_eq (a := k) (b := 4) (by omega) (by omega)).mp z))]
  by_cases a8 : 8 ≤ k
  case neg =>
    have h8 : ¬ (8 : Int32) ≤ nI k := by rw [show (8 : Int32) = nI 8 from rfl]; exact nI_ge (by omega) (by omega)
    have hO := O.1
    subst no
    obtain ⟨r, hr, er⟩ := M_most ((v >>> (4 &&& 31)) >>> (2 &&& 31)) (m := rowsN g n) hR0 (by omega)
    have hs0 := sz_pos W hr
    have hsz := sz_le W (r := r)
    obtain ⟨hln, -⟩ := O.2 r hr
    obtain ⟨i, hi, ei⟩ := M_most ((v >>> (4 &&& 31)) >>> (4 &&& 31)) (m := sz n u a b g r) hs0 (by omega)
    obtain ⟨j, hj, ej⟩ := M_most ((v >>> (4 &&& 31)) >>> (6 &&& 31)) (m := sz n u a b g r) hs0 (by omega)
    obtain ⟨od3, po3, e3, R3⟩ := A_crossIf W X.1 (fun w hw => (X.2.2.1.2 w hw).1) X.2.2.2 U.2.2 hr hi hj
    have X3 : UX n u pr a b g an uy pl bx pu fp sp uY ge am lv rf od3 rs po3 fb sb := ⟨X.1, X.2.1, X.2.2.1, R3⟩
    obtain ⟨hc4, held4, next4, od4, po4, e4', U4, X4, H4, k4⟩ := K_swap U X3 rfl H hr hi hj
    obtain ⟨od5, e5, O5⟩ := O_turn W O hr hi hj
    rw [if_neg h8, er]
    simp only []
    rw [gd_in (by omega) (by omega), gd_in hr (by omega), nI_clamp (show r < 2147483648 by omega), hln, show Int32.ofNat (sz n u a b g r) = nI (sz n u a b g r) from rfl, ei]
    simp only []
    rw [gd_in (by omega) (by omega), gd_in hr (by omega), ej]
    simp only []
    rw [e3]
    simp only [on, uc3]
    rw [e5]
    simp only []
    rw [e4']
    simp only [uc6]
    rw [O_all W F G O5 U4.2.2]
    simp only []
    first
      | rw [if_pos trivial]
      | rw [if_pos rfl]
    first
      | rw [if_pos trivial]
      | rw [if_pos rfl]
    exact ⟨1, (u, pr, a, b, g, an, uy, plS bx r i j pl, bxS r i j bx), _, _, _, rfl, ⟨rfl, rfl, rfl, rfl, U4, X4, H4, S.congr (fun k k1 k2 => k4 k k1), F, G, O5⟩, Or.inl ⟨rfl, rfl, rfl⟩⟩
  have h8 : (8 : Int32) ≤ nI k := by rw [show (8 : Int32) = nI 8 from rfl]; exact nI_le a8 (by omega)
  rw [if_pos h8]
  by_cases e8 : k = 8
  · obtain ⟨i, hi, ei⟩ := M_most (v >>> (4 &&& 31)) (m := 3) (by omega) (by omega)
    obtain ⟨hc', held', next', od', po', e1, U', X', H', k810⟩ := K_improve U X rfl H (v := i) (by omega)
    obtain ⟨od3, e2, O'⟩ := O_improve W F G O U.2.2 (v := i) (by omega)
    rw [if_pos (show nI k = 8 by rw [e8]; rfl), n3, ei]
    simp only []
    rw [e1]
    simp only [on, uc6]
    rw [e2]
    simp only [uc2]
    first
      | rw [if_pos trivial]
      | rw [if_pos rfl]
    exact ⟨1, (u, pr, a, b, g, an, uy, (impN n u pr a b g i (0, pl, bx)).2.1, (impN n u pr a b g i (0, pl, bx)).2.2), _, _, _, rfl, ⟨rfl, rfl, rfl, rfl, U', X', H', S.congr (fun k k1 k2 => k810 k k1), F, G, O'⟩, Or.inl ⟨rfl, rfl, rfl⟩⟩
  rw [if_neg (show ¬ nI k = 8 from fun z => e8 ((nI_eq (a := k) (b := 8) (by omega) (by omega)).mp z))]
  by_cases e9 : k = 9
  · obtain ⟨hc', held', next', ks', od', po', e1, U', X', H', k810⟩ := K_arrange (ks := ks) U X rfl H
    obtain ⟨ln3, od3, e2, O'⟩ := O_arrange W F G O U.2.2
    rw [if_pos (show nI k = 9 by rw [e9]; rfl), e2]
    simp only [uc3]
    rw [e1]
    simp only [uc7]
    rw [O_all W F G O' U'.2.2]
    simp only []
    first
      | rw [if_pos trivial]
      | rw [if_pos rfl]
    exact ⟨1, (u, pr, a, b, g, an, uy, (srtA n u pr a b g (rowsN g n - 1) (pl, bx)).1, (srtA n u pr a b g (rowsN g n - 1) (pl, bx)).2), _, _, _, rfl, ⟨rfl, rfl, rfl, rfl, U', X', H', S.congr (fun k k1 k2 => k810 k k1), F, G, O'⟩, Or.inl ⟨rfl, rfl, rfl⟩⟩
  rw [if_neg (show ¬ nI k = 9 from fun z => e9 ((nI_eq (a := k) (b := 9) (by omega) (by omega)).mp z))]
  obtain ⟨hc', held', next', fb', od', po', rs', sb', e1, U', X', H', k810⟩ := K_plain U X rfl H
  obtain ⟨ge3, lv3, ln3, od3, e2, G', O'⟩ := O_plain (ge := ge2) (lv := lv2) (ln := ln) (od := od2) W F
  rw [e2]
  simp only [uc6]
  rw [e1]
  exact ⟨1, (u, pr, a, b, g, an, uy, ppl n u a b g, pbx n u a b g), _, _, _, rfl, ⟨rfl, rfl, rfl, rfl, U', X', H', S.congr (fun k k1 k2 => k810 k k1), F, G', O'⟩, Or.inl ⟨rfl, rfl, rfl⟩⟩
end YACV
