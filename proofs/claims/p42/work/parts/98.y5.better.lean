/-! isBetter is true -/
theorem psh_s {t : STT} {hs : Nat → STT} : (fun i => psh t hs (i + 1)) = hs := by
  funext i
  unfold psh
  rw [if_neg (by omega), show i + 1 - 1 = i by omega]
section YBET
variable {n u : Nat} {pr a b g : Nat → Nat} {an : Nat → Nat → Bool} {uy : Nat → Int32} {pl lc : Nat → Nat} {bx : Nat → Nat → Nat} {pu fp sp uY ge am lv rf od rs po fb sb lA py fc mc hc hc' : Nat → Int32} {next held : Int32} {h : Nat} {hs : Nat → STT}
theorem B_better (U : US n u pr a b g an pl bx) (X : UX n u pr a b g an uy pl bx pu fp sp uY ge am lv rf od rs po fb sb) (H : HISt n hc next held h hs) (hn0 : 0 < n) (v : Int32) :
    ∃ am' fp' ge' lv' pu' rf' sp' uY' hc' held' next' fb' od' po' rs' sb',
      pL_isBetter (nI n) (nI u) (nI (rowsN g n)) next held fc mc am fp ge lA lv pu py rf sp uY hc fb od po rs sb v = some (true, fc, mc, am', fp', ge', lv', pu', rf', nI (rowsN g n), sp', nI u, uY', hc', held', next', fb', od', po', rs', sb') ∧
      US n u pr a b g an pl bx ∧ UX n u pr a b g an uy pl bx pu' fp' sp' uY' ge' am' lv' rf' od' rs' po' fb' sb' ∧ (∀ k, 810 ≤ k → hc' k = hc k) ∧ ∃ h' hs', HISt n hc' next' held' h' hs' := by
  have W := U.1
  have hR := rows16 W
  have hR0 : 0 < rowsN g n := Nat.lt_of_le_of_lt (Nat.zero_le _) (rowsN_lt (g := g) hn0)
  obtain ⟨k, hk, ek⟩ := M_most v (m := 4) (by omega) (by omega)
  obtain ⟨hc1, held1, next1, od1, po1, e1, U1, X1, H1, k1⟩ := K_improve U X rfl H (v := k) (by omega)
  have H1' : HISt n hc1 next1 held1 (min h 9 + 1) (psh (u, pr, a, b, g, an, uy, pl, bx) hs) := by
    rw [show min h 9 + 1 = min (h + 1) 10 by omega]
    exact H1
  obtain ⟨am2, fp2, ge2, lv2, pu2, rf2, sp2, uY2, held2, next2, fb2, od2, po2, rs2, sb2, e2, U2, X2, H2⟩ := K_undo (am := am) (fp := fp) (ge := ge) (lv := lv) (pu := pu) (rf := rf) (sp := sp) (uY := uY) (fb := fb) (od := od1) (po := po1) (rs := rs) (sb := sb) (uc := nI u) (rc := nI (rowsN g n)) H1' (show psh (u, pr, a, b, g, an, uy, pl, bx) hs 0 = (u, pr, a, b, g, an, uy, pl, bx) from rfl)
  rw [psh_s] at H2
  obtain ⟨r, hr, er⟩ := M_most (v >>> (3 &&& 31)) (m := rowsN g n) hR0 (by omega)
  have hs0 := sz_pos W hr
  have hsz := sz_le W (r := r)
  obtain ⟨i, hi, ei⟩ := M_most (v >>> (5 &&& 31)) (m := sz n u a b g r) hs0 (by omega)
  obtain ⟨j, hj, ej⟩ := M_most (v >>> (7 &&& 31)) (m := sz n u a b g r) hs0 (by omega)
  obtain ⟨od3, po3, e3, R3⟩ := A_crossIf W X2.1 (fun w hw => (X2.2.2.1.2 w hw).1) X2.2.2.2 U2.2.2 hr hi hj
  have X3 : UX n u pr a b g an uy pl bx pu2 fp2 sp2 uY2 ge2 am2 lv2 rf2 od3 rs2 po3 fb2 sb2 := ⟨X2.1, X2.2.1, X2.2.2.1, R3⟩
  obtain ⟨hc4, held4, next4, od4, po4, e4, U4, X4, H4, k4⟩ := K_swap U2 X3 rfl H2 hr hi hj
  obtain ⟨hc5, held5, next5, od5, po5, e5, U5, X5, H5, k5⟩ := K_swap U4 X4 rfl H4 hr hi hj
  have q1 := (U2.2.2.2 r i hi).2.2.2
  have q2 := (U2.2.2.2 r j hj).2.2.2
  rw [plS_back q1 q2] at e5 U5 X5
  rw [bxS_back] at U5 X5
  have H5' : HISt n hc5 next5 held5 (min (min h 9 + 1) 9 + 1) (psh (u, pr, a, b, g, an, uy, plS bx r i j pl, bxS r i j bx) (psh (u, pr, a, b, g, an, uy, pl, bx) hs)) := by
    rw [show min (min h 9 + 1) 9 + 1 = min (min (min h 9 + 1) 10 + 1) 10 by omega]
    exact H5
  obtain ⟨am6, fp6, ge6, lv6, pu6, rf6, sp6, uY6, held6, next6, fb6, od6, po6, rs6, sb6, e6, U6, X6, H6⟩ := K_undo (am := am2) (fp := fp2) (ge := ge2) (lv := lv2) (pu := pu2) (rf := rf2) (sp := sp2) (uY := uY2) (fb := fb2) (od := od5) (po := po5) (rs := rs2) (sb := sb2) (uc := nI u) (rc := nI (rowsN g n)) H5' (show psh (u, pr, a, b, g, an, uy, plS bx r i j pl, bxS r i j bx) (psh (u, pr, a, b, g, an, uy, pl, bx) hs) 0 = (u, pr, a, b, g, an, uy, plS bx r i j pl, bxS r i j bx) from rfl)
  rw [psh_s] at H6
  have H6' : HISt n hc5 next6 held6 (min (min h 9) 8 + 1) (psh (u, pr, a, b, g, an, uy, pl, bx) hs) := by
    rw [show min (min h 9) 8 + 1 = min (min h 9 + 1) 9 by omega]
    exact H6
  obtain ⟨am7, fp7, ge7, lv7, pu7, rf7, sp7, uY7, held7, next7, fb7, od7, po7, rs7, sb7, e7, U7, X7, H7⟩ := K_undo (am := am6) (fp := fp6) (ge := ge6) (lv := lv6) (pu := pu6) (rf := rf6) (sp := sp6) (uY := uY6) (fb := fb6) (od := od6) (po := po6) (rs := rs6) (sb := sb6) (uc := nI u) (rc := nI (rowsN g n)) H6' (show psh (u, pr, a, b, g, an, uy, pl, bx) hs 0 = (u, pr, a, b, g, an, uy, pl, bx) from rfl)
  refine ⟨am7, fp7, ge7, lv7, pu7, rf7, sp7, uY7, hc5, held7, next7, fb7, od7, po7, rs7, sb7, ?_, U, X7, fun k hk => by rw [k5 k hk, k4 k hk, k1 k hk], _, _, H7⟩
  have hti := impN_tot (n := n) (u := u) (pr := pr) (a := a) (b := b) (g := g) k (0, pl, bx)
  have htl := tot_le (pl := pl) W
  dsimp only at hti
  unfold pL_isBetter
  rw [D_all U X]
  simp only [ob, uc3]
  rw [A_crossings W X.1 (fun w hw => (X.2.2.1.2 w hw).1) X.2.2.2 U.2.2]
  simp only [ob]
  rw [show (4 : Int32) = nI 4 from rfl, ek]
  simp only [ob]
  rw [e1]
  simp only [on, uc6]
  rw [A_crossings W X1.1 (fun w hw => (X1.2.2.1.2 w hw).1) X1.2.2.2 U1.2.2]
  simp only [ob]
  rw [nI_sub (by omega), if_neg (nI_nlt (by omega) (by omega)), e2]
  simp only [ob, uc18]
  rw [show (0 : Int32) = nI 0 from rfl, if_neg (nI_nlt (Nat.zero_le _) (by omega)), D_all U2 X2]
  simp only [ob, uc3]
  first
    | rw [if_pos trivial]
    | rw [if_pos rfl]
  rw [A_count2]
  simp only [ob]
  rw [er]
  simp only [ob]
  rw [A_boxes W X2.2.2.2.1 hr]
  simp only [on]
  rw [ei]
  simp only [ob]
  rw [ej]
  simp only [ob]
  rw [e3]
  simp only [on, uc3]
  rw [D_all U2 X3]
  simp only [ob, uc3]
  first
    | rw [if_pos trivial]
    | rw [if_pos rfl]
  rw [e4]
  simp only [on, uc6]
  first
    | rw [if_pos trivial]
    | rw [if_pos rfl]
  rw [e5]
  simp only [on, uc6]
  first
    | rw [if_pos trivial]
    | rw [if_pos rfl]
  rw [D_all U5 X5]
  simp only [ob, uc3]
  first
    | rw [if_pos trivial]
    | rw [if_pos rfl]
  rw [e6]
  simp only [ob, uc18]
  rw [if_neg (nI_nlt (Nat.zero_le _) (by omega)), e7]
  simp only [ob, uc18]
  rw [if_neg (nI_nlt (Nat.zero_le _) (by omega)), D_all U7 X7]
  simp only [ob, uc3]
  first
    | rw [if_pos trivial]
    | rw [if_pos rfl]
end YBET
