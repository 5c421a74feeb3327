/-! the law's end: all undone, better, sound, the snapshot brought back -/
section YLAZ
variable {n u : Nat} {pr a b g : Nat → Nat} {an : Nat → Nat → Bool} {uy : Nat → Int32} {pl lc : Nat → Nat} {bx : Nat → Nat → Nat} {pu fp sp uY ge am lv rf od rs po fb sb hc lA py fc mc wy : Nat → Int32} {e0 : Nat → Int64} {next held : Int32} {h : Nat} {hs : Nat → STT} {t0 : STT} {N : Nat → Int64} {adV : Nat → Nat}
variable {q_i_filled : Int32} {q_i_length : Int32} {q_i_kind : Int32} {q_i_start : Int32} {q_i_stop : Int32} {q_i_value : Int32} {q_i_errorCode : Int32} {q_i_errorStart : Int32} {q_d_personCount : Int32} {q_d_unionCount : Int32} {q_d_rowCount : Int32} {q_p_lineLength : Int32} {q_p_textLength : Int32} {q_n_persons : Int32} {q_n_unions : Int32} {q_n_rows : Int32} {q_N10 : Nat → Int32} {q_d_ancestorMask : Nat → Int32} {q_d_firstPartner : Nat → Int32} {q_d_generation : Nat → Int32} {q_d_letterCount : Nat → Int32} {q_d_letters : Nat → Int32} {q_d_level : Nat → Int32} {q_d_parentUnion : Nat → Int32} {q_d_personYear : Nat → Int32} {q_d_referenced : Nat → Int32} {q_d_secondPartner : Nat → Int32} {q_d_unionYear : Nat → Int32} {q_f_letters : Nat → Int32} {q_i_bytes : Nat → Int32} {q_n_gens : Nat → Int32} {q_n_letters : Nat → Int32} {q_n_levels : Nat → Int32} {q_n_parents : Nat → Int32} {q_n_year : Nat → Int32} {q_p_line : Nat → Int32} {q_p_text : Nat → Int32} {q_r_keys : Nat → Int32} {q_n_un : Nat → Nat → Int32} {q_n_nu : Nat} {q_n_ln : Nat → Nat} {q_n_od : Nat → Nat → Int32} {q_n_no : Nat}
theorem T_334 (U : US n u pr a b g an pl bx) (X : UX n u pr a b g an uy pl bx pu fp sp uY ge am lv rf od rs po fb sb) (H : HISt n hc next held 0 hs) (S : SAVt n hc 810 t0) (C : LCX n lc lA) (hlc : ∀ p, p < n → lc p ≤ 8) (hA : adV 21 ≤ 260) (hn0 : 0 < n) : pL_law_J334 adV q_i_filled q_i_length q_i_kind q_i_start q_i_stop q_i_value q_i_errorCode q_i_errorStart (nI n) (nI u) (nI (rowsN g n)) q_d_personCount q_d_unionCount q_d_rowCount q_p_lineLength q_p_textLength next held true q_n_persons q_n_unions q_n_rows q_N10 fc mc q_d_ancestorMask q_d_firstPartner q_d_generation q_d_letterCount q_d_letters q_d_level q_d_parentUnion q_d_personYear q_d_referenced q_d_secondPartner q_d_unionYear e0 wy am fp ge lA q_f_letters lv pu py rf sp uY hc q_i_bytes q_n_gens q_n_letters q_n_levels q_n_parents q_n_year q_p_line q_p_text fb q_r_keys od po rs sb q_n_un q_n_nu q_n_ln q_n_od q_n_no (DGt n t0) = some true := by
  obtain ⟨x, hx⟩ := M_cell hA (k := 33) (by omega)
  obtain ⟨am2, fp2, ge2, lv2, pu2, rf2, sp2, uY2, hc2, held2, next2, fb2, od2, po2, rs2, sb2, e2, U2, X2, k2, h2, hs2, H2⟩ := B_better (lA := lA) (py := py) (fc := fc) (mc := mc) U X H hn0 x
  obtain ⟨fc3, mc3, e3, wy3, s3⟩ := S_sound (e0 := e0) (wy := wy) (lA := lA) (py := py) (fc := fc) (mc := mc) U2 X2 C hlc
  have S2 : SAVt n hc2 810 t0 := S.congr (fun k k1 _ => k2 k k1)
  obtain ⟨u0, pr0, a0, b0, g0, an0, uy0, pl0, bx0⟩ := t0
  obtain ⟨am4, fp4, ge4, lv4, pu4, rf4, sp4, uY4, fb4, od4, po4, rs4, sb4, e4, U4, X4⟩ := K_restore (am := am2) (fp := fp2) (ge := ge2) (lv := lv2) (pu := pu2) (rf := rf2) (sp := sp2) (uY := uY2) (fb := fb2) (od := od2) (po := po2) (rs := rs2) (sb := sb2) (uc := nI u) (rc := nI (rowsN g n)) H2 S2
  unfold pL_law_J334
  rw [K_undo0 H]
  simp only [ob, uc18]
  first
    | rw [if_pos trivial]
    | rw [if_pos rfl]
  rw [show (33 : Int32) = nI 33 from rfl, hx]
  simp only []
  rw [e2]
  simp only [uc21, cond]
  rw [s3]
  simp only [uc5, cond]
  rw [e4]
  simp only [uc17, cond]
  rw [D_all U4 X4]
  simp only [uc3]
  rw [if_pos (show DG n u0 pr0 a0 b0 g0 pl0 = DGt n (u0, pr0, a0, b0, g0, an0, uy0, pl0, bx0) from rfl)]
  exact if_pos rfl
theorem T_293 (U : US n u pr a b g an pl bx) (X : UX n u pr a b g an uy pl bx pu fp sp uY ge am lv rf od rs po fb sb) (H : HISt n hc next held h hs) (S : SAVt n hc 810 t0) (C : LCX n lc lA) (hlc : ∀ p, p < n → lc p ≤ 8) (hA : adV 21 ≤ 260) (hn0 : 0 < n) (hN : ∀ j, j < h → N j = DGt n (hs (h - 1 - j))) : pL_law_J293 adV q_i_filled q_i_length q_i_kind q_i_start q_i_stop q_i_value q_i_errorCode q_i_errorStart (nI n) (nI u) (nI (rowsN g n)) q_d_personCount q_d_unionCount q_d_rowCount q_p_lineLength q_p_textLength next held true q_n_persons q_n_unions q_n_rows q_N10 fc mc q_d_ancestorMask q_d_firstPartner q_d_generation q_d_letterCount q_d_letters q_d_level q_d_parentUnion q_d_personYear q_d_referenced q_d_secondPartner q_d_unionYear e0 wy am fp ge lA q_f_letters lv pu py rf sp uY hc q_i_bytes q_n_gens q_n_letters q_n_levels q_n_parents q_n_year q_p_line q_p_text fb q_r_keys od po rs sb q_n_un q_n_nu q_n_ln q_n_od q_n_no N (DGt n t0) (nI h) = some true := by
  have hh := H.1
  obtain ⟨u', pr', a', b', g', an', uy', pl', bx', hs', am', fp', ge', lv', pu', rf', sp', uY', held', next', fb', od', po', rs', sb', e1, U', X', H'⟩ := T_299 (lA := lA) (py := py) (fc := fc) (mc := mc) h FU u pr a b g an uy pl bx hs am fp ge lv pu rf sp uY held next fb od po rs sb (by show h < 1024; omega) U X H hN
  unfold pL_law_J293
  simp only [lb]
  rw [e1]
  simp only [os, uc19]
  exact T_334 U' X' H' S C hlc hA hn0
end YLAZ
