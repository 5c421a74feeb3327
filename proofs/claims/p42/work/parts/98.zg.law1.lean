/-! the law's loop of acts -/
def DGt (n : Nat) (t : STT) : Int64 := DG n t.1 t.2.1 t.2.2.1 t.2.2.2.1 t.2.2.2.2.1 t.2.2.2.2.2.2.2.1
theorem M_cell {adV : Nat → Nat} (hA : adV 21 ≤ 260) {k : Nat} (hk : k < 1000) : ∃ x, pL_cell adV (nI k) = some x := by
  unfold pL_cell
  rw [show Int32.ofNat (adV 21) = nI (adV 21) from rfl]
  by_cases c : adV 21 ≤ k
  · exact ⟨_, if_pos (nI_le c (by omega))⟩
  · rw [if_neg (nI_ge (by omega) (by omega)), gd_in (by omega) (by omega)]
    exact ⟨_, rfl⟩
section YLAW
variable {n u : Nat} {pr a b g : Nat → Nat} {an : Nat → Nat → Bool} {uy : Nat → Int32} {pl lc : Nat → Nat} {bx lt : Nat → Nat → Nat} {pu fp sp uY ge am lv rf od rs po fb sb ks hc ge2 lv2 pn lA letters py fc mc w line text : Nat → Int32} {e : Nat → Int64} {next held un2 rw2 len tl : Int32} {un od2 : Nat → Nat → Int32} {nu no : Nat} {ln : Nat → Nat} {h : Nat} {hs : Nat → STT} {t0 : STT} {N : Nat → Int64}
theorem T_258 (U : US n u pr a b g an pl bx) (X : UX n u pr a b g an uy pl bx pu fp sp uY ge am lv rf od rs po fb sb) (C : LCX n lc lA) (T : LTX n lc lt letters) (hlc : ∀ p, p < n → lc p ≤ 8) (B : LB line len) {i : Nat} (hi : i < 28) (v7 v9 : Int32) : ∀ kk, ∃ fc' mc' line' len' text' tl', pL_law_J258 lA letters (nI n) py kk len line tl text (nI i) (nI u) (nI (rowsN g n)) next held un2 rw2 fc mc e w am fp ge lv pu rf sp uY hc ge2 lv2 pn fb ks od po rs sb un nu ln od2 no N v7 v9 =
    kk v7 (nI (i + 1)) N fc' mc' e w am fp ge lv pu rf (nI (rowsN g n)) sp (nI u) uY hc held next ge2 lv2 ln no nu od2 pn rw2 un un2 line' len' text' tl' fb ks od po rs sb ∧ LB line' len' := by
  intro kk
  unfold pL_law_J258
  rw [show (9 : Int32) = nI 9 from rfl, nI_div (by omega) (by omega), nI_mul, nI_sub (Nat.div_mul_le_self i 9), show (8 : Int32) = nI 8 from rfl]
  by_cases c : i - i / 9 * 9 = 8
  · obtain ⟨k, hk, ek⟩ := M_most v9 (m := 60) (by omega) (by omega)
    obtain ⟨fc', mc', line', len', text', tl', e1, B'⟩ := P_printed (fc := fc) (mc := mc) (text := text) (tl := tl) (py := py) U X C T hlc B (w := 10 + k) (by omega) (by omega)
    refine ⟨fc', mc', line', len', text', tl', ?_, B'⟩
    rw [if_pos (by rw [c]), show (60 : Int32) = nI 60 from rfl, ek]
    simp only [ob]
    rw [n10, nI_add, e1]
    simp only [uc7, cond, lb]
    rw [n1, nI_add]
  · refine ⟨fc, mc, line, len, text, tl, ?_, B⟩
    rw [if_neg (fun z => c ((nI_eq (by omega) (by omega)).mp z))]
    simp only [lb]
    rw [n1, nI_add]
theorem T_225 (U : US n u pr a b g an pl bx) (X : UX n u pr a b g an uy pl bx pu fp sp uY ge am lv rf od rs po fb sb) (C : LCX n lc lA) (T : LTX n lc lt letters) (hlc : ∀ p, p < n → lc p ≤ 8) (B : LB line len) {i k : Nat} (hi : i < 28) (hk : k < 10) (hh : held = nI (k + 1)) (v9 : Int32) (v10 : Int64) : ∀ kk, ∃ fc' mc' e' w' line' len' text' tl', pL_law_J225 e w lA letters (nI n) py kk len line tl text (nI i) (nI u) (nI (rowsN g n)) next held un2 rw2 fc mc am fp ge lv pu rf sp uY hc ge2 lv2 pn fb ks od po rs sb un nu ln od2 no N (nI k) v9 v10 =
    kk (nI (k + 1)) (nI (i + 1)) (vp_updL N k v10) fc' mc' e' w' am fp ge lv pu rf (nI (rowsN g n)) sp (nI u) uY hc held next ge2 lv2 ln no nu od2 pn rw2 un un2 line' len' text' tl' fb ks od po rs sb ∧ LB line' len' := by
  intro kk
  unfold pL_law_J225
  simp only [lb]
  rw [gd_in hk (by omega), n1, nI_add, show p9_undoCount held = held from rfl, hh, nI_clamp (by omega), show (4 : Int32) = nI 4 from rfl, nI_div (by omega) (by omega), nI_mul, nI_sub (Nat.div_mul_le_self i 4)]
  first
    | rw [if_pos trivial]
    | rw [if_pos rfl]
  by_cases c : i - i / 4 * 4 = 0
  · obtain ⟨f1, m1, e1, w1, q1⟩ := S_sound (e0 := e) (wy := w) (fc := fc) (mc := mc) (py := py) U X C hlc
    obtain ⟨fc', mc', line', len', text', tl', e2, B'⟩ := T_258 (un2 := un2) (rw2 := rw2) (next := next) (held := nI (k + 1)) (hc := hc) (ge2 := ge2) (lv2 := lv2) (pn := pn) (ks := ks) (un := un) (od2 := od2) (nu := nu) (no := no) (ln := ln) (fc := f1) (mc := m1) (e := e1) (w := w1) (text := text) (tl := tl) (py := py) (N := vp_updL N k v10) U X C T hlc B hi (nI (k + 1)) v9 kk
    refine ⟨fc', mc', e1, w1, line', len', text', tl', ?_, B'⟩
    rw [c, if_pos (show nI 0 = (0 : Int32) from rfl), q1]
    simp only [ob, uc5, cond]
    exact e2
  · obtain ⟨fc', mc', line', len', text', tl', e2, B'⟩ := T_258 (un2 := un2) (rw2 := rw2) (next := next) (held := nI (k + 1)) (hc := hc) (ge2 := ge2) (lv2 := lv2) (pn := pn) (ks := ks) (un := un) (od2 := od2) (nu := nu) (no := no) (ln := ln) (fc := fc) (mc := mc) (e := e) (w := w) (text := text) (tl := tl) (py := py) (N := vp_updL N k v10) U X C T hlc B hi (nI (k + 1)) v9 kk
    refine ⟨fc', mc', e, w, line', len', text', tl', ?_, B'⟩
    rw [if_neg (show ¬ nI (i - i / 4 * 4) = (0 : Int32) from fun z => c ((nI_eq (b := 0) (by omega) (by omega)).mp z))]
    exact e2
theorem T_197 : ∃ N', pL_law_L197 FU 1 N = some N' ∧ (∀ j, j < 9 → N' j = N (j + 1)) := by
  obtain ⟨z, e1, h1⟩ := loop_all (fun k i (s : Nat → Int64) => pL_law_L197 k (nI (i + 1)) s) 9
    (fun i s => (∀ j, j < i → s j = N (j + 1)) ∧ ∀ j, i ≤ j → s j = N j)
    (fun z => ∀ j, j < 9 → z j = N (j + 1)) (by
      intro k s hs
      refine ⟨s, ?_, hs.1⟩
      try dsimp only
      rw [pL_law_L197, pL_law_L197_B, n10, if_pos (nI_le (by omega) (by omega))]) (by
      intro k i s hi hs
      refine ⟨vp_updL s i (s (i + 1)), ?_, fun j hj => ?_, fun j hj => ?_⟩
      · try dsimp only
        rw [pL_law_L197, pL_law_L197_B, n10, if_neg (nI_ge (by omega) (by omega)), gd_in (by omega) (by omega), n1, nI_sub (by omega), show i + 1 - 1 = i by omega, gd_in (by omega) (by omega), nI_clamp (by omega), nI_clamp (by omega)]
        simp only [lb]
        rw [nI_add]
      · by_cases c : j = i
        · rw [c, updL_eq, hs.2 (i + 1) (by omega)]
        · rw [updL_ne c]; exact hs.1 j (by omega)
      · rw [updL_ne (by omega)]; exact hs.2 j (by omega)) FU 0 N (Nat.zero_le _) (by show 9 - 0 < 1024; omega) ⟨fun j hj => absurd hj (Nat.not_lt_zero _), fun j _ => rfl⟩
  exact ⟨z, e1, h1⟩
end YLAW
