/-! sentence by sentence -/
theorem WF12 {n w : Nat} {a b : Nat → Nat} (hn : n ≤ 16) (hw : w ≤ 12) (hab : ∀ v, v < w → a v < n ∧ b v < n ∧ a v ≠ b v) : WF n w (fun _ => 12) a b (fun _ => 0) ∧ ANC n (fun _ => 12) a b (fun _ _ => false) :=
  ⟨⟨hn, hw, fun p _ => Or.inl rfl, hab, fun p _ => (if_neg (show ¬ 12 < 12 by omega)).symm, fun p hp => (show 0 < n by omega)⟩, fun p _ q => (if_neg (show ¬ 12 < 12 by omega)).symm⟩
section YLOP
variable {bs : Nat → Int32} {n u : Nat} {lc yr pr a b g uy : Nat → Nat} {errS : Int32}
theorem R_A (hn : n ≤ 16) (H : BFT (tpL lc yr n ++ tuL n lc pr a b uy u) bs) (hlc : ∀ p, p < n → 2 ≤ lc p ∧ lc p ≤ 8) (hy : ∀ p, p < n → yr p ≤ 2100) :
    ∀ d m fuel (am fp ge lA le lv pu py rf : Nat → Int32) (rc : Int32) (sp uY : Nat → Int32) (vv : Int32), n - m = d → m ≤ n → d < fuel → LCX m lc lA → LTX m lc ltF le → (∀ p, p < m → pu p = -1) → (∀ p, p < m → py p = nI (yr p)) → (∀ p, p < m → ∀ q, bt (am p) q = false) →
    ∃ am' ge' lA' le' lv' pu' py' rf' rc' vv', p8_read_L17 bs (nI (tpL lc yr n ++ tuL n lc pr a b uy u).length) fuel (nI m) am fp ge lA le lv pu (nI m) py rf rc sp (nI 0) uY 0 errS (tkP n u lc yr pr a b uy m).1 (tkP n u lc yr pr a b uy m).2.1 (tkP n u lc yr pr a b uy m).2.2 vv =
      p8_read_L17 bs (nI (tpL lc yr n ++ tuL n lc pr a b uy u).length) (fuel - d) (nI n) am' fp ge' lA' le' lv' pu' (nI n) py' rf' rc' sp (nI 0) uY 0 errS (tkU n u lc yr pr a b uy 0).1 (tkU n u lc yr pr a b uy 0).2.1 (tkU n u lc yr pr a b uy 0).2.2 vv' ∧
      LCX n lc lA' ∧ LTX n lc ltF le' ∧ (∀ p, p < n → pu' p = -1) ∧ (∀ p, p < n → py' p = nI (yr p)) ∧ ∀ p, p < n → ∀ q, bt (am' p) q = false := by
  intro d
  induction d with
  | zero =>
    intro m fuel am fp ge lA le lv pu py rf rc sp uY vv h1 h2 h3 C X hpu hpy ham
    have e : m = n := by omega
    subst e
    refine ⟨am, ge, lA, le, lv, pu, py, rf, rc, vv, ?_, C, X, hpu, hpy, ham⟩
    rw [show tkP m u lc yr pr a b uy m = tkU m u lc yr pr a b uy 0 from if_neg (Nat.lt_irrefl _)]
    rfl
  | succ d ih =>
    intro m fuel am fp ge lA le lv pu py rf rc sp uY vv h1 h2 h3 C X hpu hpy ham
    have hm : m < n := by omega
    obtain ⟨k, rfl⟩ : ∃ k', fuel = k' + 1 := ⟨fuel - 1, by omega⟩
    have S := AT_p (u := u) (pr := pr) (a := a) (b := b) (uy := uy) (lc := lc) (yr := yr) hm
    have hP : (tpL lc yr m).length + (ptL lc yr m).length = (tpL lc yr (m + 1)).length := by
      rw [show tpL lc yr (m + 1) = tpL lc yr m ++ ptL lc yr m from rfl, List.length_append]
    have N := NX_tkP H (m := m + 1) (by omega)
    rw [← hP] at N
    obtain ⟨lA', le', v', e1, C', X'⟩ := R_person (pu := pu) (py := py) (errS := errS) H (by omega) S C X (fun p hp => hlc p (by omega)) (hy m hm) N vv
    obtain ⟨W0, AN0⟩ := WF12 (n := m + 1) (w := 0) (a := a) (b := b) (by omega) (by omega) (fun v hv => absurd hv (Nat.not_lt_zero _))
    have F0 : FX (m + 1) 0 (fun _ => 12) a b (upd pu m (-1)) fp sp := ⟨fun p hp => by
      by_cases c : p = m
      · rw [c, upd_eq]; rfl
      · rw [upd_ne c, hpu p (by omega)]; rfl, fun v hv => absurd hv (Nat.not_lt_zero _)⟩
    obtain ⟨am', ge', lv', rf', e2, R2⟩ := X1_refresh (am := am) (ge := ge) (lv := lv) (rf := rf) W0 AN0 F0
    obtain ⟨am2, ge2, lA2, le2, lv2, pu2, py2, rf2, rc2, vv2, e3, C2, X2, h5, h6, h7⟩ := ih (m + 1) k am' fp ge' lA' le' lv' (upd pu m (-1)) (upd (upd py m 0) m (nI (yr m))) rf' (nI (rowsN (fun _ => 0) (m + 1))) sp uY v' (by omega) (by omega) (by omega) C' X' (fun p hp => by
      by_cases c : p = m
      · rw [c, upd_eq]
      · rw [upd_ne c]; exact hpu p (by omega)) (fun p hp => by
      by_cases c : p = m
      · rw [c, upd_eq]
      · rw [upd_ne c, upd_ne c]; exact hpy p (by omega)) (fun p hp q => (R2.1 p hp).2 q)
    refine ⟨am2, ge2, lA2, le2, lv2, pu2, py2, rf2, rc2, vv2, ?_, C2, X2, h5, h6, h7⟩
    rw [show k + 1 - (d + 1) = k - d by omega, ← e3]
    rw [show tkP n u lc yr pr a b uy m = (nI 1, nI (tpL lc yr m).length, nI ((tpL lc yr m).length + 6)) from if_pos hm]
    dsimp only
    rw [p8_read_L17, p8_read_L17_B, show (800 : Int32) = nI 800 from rfl, if_neg (nI_ge (by omega) (by omega)), show p3_isFine 0 = true from by decide]
    simp only [cond]
    rw [if_neg (show ¬ nI 1 = (0 : Int32) by decide), (NX_p H S).2]
    simp only [ob]
    rw [e1]
    simp only [uc11, p8_read_J90]
    rw [show (nI 0 : Int32) = nI 0 from rfl, e2]
    simp only [ob, uc5, lb]
    rw [n1, nI_add]
theorem R_B (W : WF n u pr a b g) (H : BFT (tpL lc yr n ++ tuL n lc pr a b uy u) bs) (hlc : ∀ p, p < n → 2 ≤ lc p ∧ lc p ≤ 8) (hy : ∀ w, w < u → uy w ≤ 2100) (hd : ∀ w, w < u → ¬ upair a b (a w) (b w) w 0 < 12) {lA le py : Nat → Int32} (C : LCX n lc lA) (X : LTX n lc ltF le) :
    ∀ d w fuel (am fp ge lv pu rf : Nat → Int32) (rc : Int32) (sp uY : Nat → Int32) (vv : Int32), u - w = d → w ≤ u → d < fuel → (∀ x, x < n → pu x = oN (prq pr w 0 x)) → (∀ v, v < w → fp v = nI (a v) ∧ sp v = nI (b v)) → (∀ v, v < w → uY v = nI (uy v)) → (∃ an' : Nat → Nat → Bool, (∀ p, p < n → ∀ q, bt (am p) q = an' p q) ∧ ∀ x c, x < n → an' x c = true → g c < g x) →
    ∃ am' fp' ge' lv' pu' rf' rc' sp' uY' vv', p8_read_L17 bs (nI (tpL lc yr n ++ tuL n lc pr a b uy u).length) fuel (nI (n + w)) am fp ge lA le lv pu (nI n) py rf rc sp (nI w) uY 0 errS (tkU n u lc yr pr a b uy w).1 (tkU n u lc yr pr a b uy w).2.1 (tkU n u lc yr pr a b uy w).2.2 vv =
      some (am', fp', ge', lA, le, lv', pu', nI n, py, rf', rc', sp', nI u, uY', 0, errS, nI 0, nI (tpL lc yr n ++ tuL n lc pr a b uy u).length, nI (tpL lc yr n ++ tuL n lc pr a b uy u).length, vv') ∧
      (∀ x, x < n → pu' x = oN (prq pr u 0 x)) ∧ (∀ v, v < u → fp' v = nI (a v) ∧ sp' v = nI (b v)) ∧ ∀ v, v < u → uY' v = nI (uy v) := by
  have hn := W.n16
  have hu := W.u12
  intro d
  induction d with
  | zero =>
    intro w fuel am fp ge lv pu rf rc sp uY vv h1 h2 h3 hpu hfp hY ham
    have e : w = u := by omega
    subst e
    obtain ⟨k, rfl⟩ : ∃ k', fuel = k' + 1 := ⟨fuel - 1, by omega⟩
    refine ⟨am, fp, ge, lv, pu, rf, rc, sp, uY, vv, ?_, hpu, hfp, hY⟩
    rw [show tkU n w lc yr pr a b uy w = (nI 0, nI (tpL lc yr n ++ tuL n lc pr a b uy w).length, nI (tpL lc yr n ++ tuL n lc pr a b uy w).length) from if_neg (Nat.lt_irrefl _)]
    dsimp only
    rw [p8_read_L17, p8_read_L17_B, show (800 : Int32) = nI 800 from rfl, if_neg (nI_ge (by omega) (by omega)), show p3_isFine 0 = true from by decide]
    simp only [cond]
    rw [if_pos (show nI 0 = (0 : Int32) from rfl)]
  | succ d ih =>
    intro w fuel am fp ge lv pu rf rc sp uY vv h1 h2 h3 hpu hfp hY ham
    have hw : w < u := by omega
    obtain ⟨k, rfl⟩ : ∃ k', fuel = k' + 1 := ⟨fuel - 1, by omega⟩
    obtain ⟨an0, ha1, ha2⟩ := ham
    obtain ⟨pa1, pb1, pab⟩ := W.par hw
    have S := AT_u (n := n) (yr := yr) (lc := lc) (pr := pr) (a := a) (b := b) (uy := uy) hw
    have hP : (tpL lc yr n ++ tuL n lc pr a b uy w).length + (utL n lc pr a b uy w).length = (tpL lc yr n ++ tuL n lc pr a b uy (w + 1)).length := by
      rw [show tuL n lc pr a b uy (w + 1) = tuL n lc pr a b uy w ++ utL n lc pr a b uy w from rfl]
      simp only [List.length_append]
      omega
    have N := NX_tkU H (w := w + 1) (by omega)
    rw [← hP] at N
    obtain ⟨Ww, ANw⟩ := WF12 (n := n) (w := w) (a := a) (b := b) hn (by omega) (fun v hv => W.par (by omega))
    obtain ⟨Ww1, ANw1⟩ := WF12 (n := n) (w := w + 1) (a := a) (b := b) hn (by omega) (fun v hv => W.par (by omega))
    have hup : p1_unionOfPair (nI w) fp sp (nI (a w)) (nI (b w)) = some (-1) := by
      rw [X1_pair (pu := fun _ => -1) Ww ⟨fun p _ => rfl, hfp⟩ (by omega) (by omega), oN_out (hd w hw)]
    have hfp1 : ∀ v, v < w + 1 → upd fp w (nI (a w)) v = nI (a v) ∧ upd sp w (nI (b w)) v = nI (b v) := fun v hv => by
      by_cases c : v = w
      · rw [c, upd_eq, upd_eq]; exact ⟨rfl, rfl⟩
      · rw [upd_ne c, upd_ne c]; exact hfp v (by omega)
    have ho : ∀ p, p < n → pr p = w → p1_partnerOrAncestor am (upd fp w (nI (a w))) (upd sp w (nI (b w))) (nI w) (nI p) = false := fun p hp hpw => by
      have U := W.up hp (by omega)
      rw [hpw] at U
      rw [X1_ownAnc2 (pu := fun _ => -1) (am := am) (an := an0) Ww1 ⟨fun p _ => rfl, hfp1⟩ (w := w) (p := p) (by omega) hp (ha1 _ pa1) (ha1 _ pb1)]
      have e1 : (p == a w) = false := beq_eq_false_iff_ne.mpr (fun z => by have := U.2.2.1; rw [← z] at this; omega)
      have e2 : (p == b w) = false := beq_eq_false_iff_ne.mpr (fun z => by have := U.2.2.2.1; rw [← z] at this; omega)
      have e3 : an0 (a w) p = false := by
        cases q : an0 (a w) p with
        | false => rfl
        | true => have := ha2 _ p pa1 q; omega
      have e4 : an0 (b w) p = false := by
        cases q : an0 (b w) p with
        | false => rfl
        | true => have := ha2 _ p pb1 q; omega
      rw [e1, e2, e3, e4]
      rfl
    obtain ⟨pu', v', e1, h5⟩ := R_union (uY := uY) (errS := errS) H hn (by omega) C X hlc pa1 pb1 pab (hy w hw) S hup hpu ho N vv
    obtain ⟨g2, an2, W2, AN2, h2g⟩ := fam_prq W (w := w + 1) (by omega)
    have hpu2 : ∀ x, x < n → pu' x = oN (prq pr (w + 1) 0 x) := fun x hx => by
      rw [h5 x hx]
      unfold prq
      by_cases c : pr x < w ∨ (pr x = w ∧ x < n)
      · rw [if_pos c, if_pos (by omega)]
      · rw [if_neg c, if_neg (by omega)]
    have F2 : FX n (w + 1) (prq pr (w + 1) 0) a b pu' (upd fp w (nI (a w))) (upd sp w (nI (b w))) := ⟨hpu2, hfp1⟩
    obtain ⟨am', ge', lv', rf', e2, R2⟩ := X1_refresh (am := am) (ge := ge) (lv := lv) (rf := rf) W2 AN2 F2
    obtain ⟨am3, fp3, ge3, lv3, pu3, rf3, rc3, sp3, uY3, vv3, e3, i1, i2, i3⟩ := ih (w + 1) k am' (upd fp w (nI (a w))) ge' lv' pu' rf' (nI (rowsN g2 n)) (upd sp w (nI (b w))) (upd uY w (nI (uy w))) v' (by omega) (by omega) (by omega) hpu2 hfp1 (fun v hv => by
      by_cases c : v = w
      · rw [c, upd_eq]
      · rw [upd_ne c]; exact hY v (by omega)) ⟨an2, fun p hp q => (R2.1 p hp).2 q, fun x c hx hc => h2g (g x + 1) x c (Nat.lt_succ_self _) hx hc⟩
    refine ⟨am3, fp3, ge3, lv3, pu3, rf3, rc3, sp3, uY3, vv3, ?_, i1, i2, i3⟩
    rw [← e3]
    rw [show tkU n u lc yr pr a b uy w = (nI 1, nI (tpL lc yr n ++ tuL n lc pr a b uy w).length, nI ((tpL lc yr n ++ tuL n lc pr a b uy w).length + 5)) from if_pos hw]
    dsimp only
    obtain ⟨nx1, nx2, nx3⟩ := NX_u H S
    rw [p8_read_L17, p8_read_L17_B, show (800 : Int32) = nI 800 from rfl, if_neg (nI_ge (by omega) (by omega)), show p3_isFine 0 = true from by decide]
    simp only [cond]
    rw [if_neg (show ¬ nI 1 = (0 : Int32) by decide), nx2]
    simp only [ob]
    rw [nx3]
    simp only []
    rw [e1]
    simp only [uc11, p8_read_J90]
    rw [e2]
    simp only [ob, uc5, lb]
    rw [n1, nI_add]
    rfl
end YLOP
