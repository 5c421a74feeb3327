/-! the text loaded, and told -/
section YLOD
variable {bs : Nat → Int32} {n u : Nat} {lc yr pr a b g uy : Nat → Nat} {an : Nat → Nat → Bool}
theorem R_read (W : WF n u pr a b g) (hn0 : 0 < n) (H : BFT (tpL lc yr n ++ tuL n lc pr a b uy u) bs) (hlc : ∀ p, p < n → 2 ≤ lc p ∧ lc p ≤ 8) (hyr : ∀ p, p < n → yr p ≤ 2100) (hy : ∀ w, w < u → uy w ≤ 2100) (hd : ∀ w, w < u → ¬ upair a b (a w) (b w) w 0 < 12) (dam dfp dge dlA dletters dlv dpu dpy drf dsp duY : Nat → Int32) (kind start value : Int32) :
    ∃ am fp ge lA le lv pu py rf rc sp uY len st sp2 v, p8_read kind start value dam dfp dge dlA dletters dlv dpu dpy drf dsp duY bs (nI (tpL lc yr n ++ tuL n lc pr a b uy u).length) = some (0, am, fp, ge, lA, le, lv, pu, nI n, py, rf, rc, sp, nI u, uY, 0, -1, 0, nI 0, len, st, sp2, v) ∧ LCX n lc lA ∧ LTX n lc ltF le ∧ (∀ x, x < n → pu x = oN (pr x)) ∧ (∀ v, v < u → fp v = nI (a v) ∧ sp v = nI (b v)) ∧ ∀ v, v < u → uY v = nI (uy v) := by
  have hn := W.n16
  obtain ⟨W0, AN0⟩ := WF12 (n := 0) (w := 0) (a := a) (b := b) (by omega) (by omega) (fun v hv => absurd hv (Nat.not_lt_zero _))
  obtain ⟨am1, ge1, lv1, rf1, e1, -⟩ := X1_refresh (am := dam) (ge := dge) (lv := dlv) (rf := drf) (pu := dpu) (fp := dfp) (sp := dsp) W0 AN0 ⟨fun p hp => absurd hp (Nat.not_lt_zero _), fun v hv => absurd hv (Nat.not_lt_zero _)⟩
  have N := NX_tkP H (m := 0) (Nat.zero_le _)
  obtain ⟨vv, e2⟩ := N kind start value
  obtain ⟨am2, ge2, lA2, le2, lv2, pu2, py2, rf2, rc2, vv2, e3, C, X, h1, h2, h3⟩ := R_A (errS := -1) (pr := pr) (a := a) (b := b) (uy := uy) hn H hlc hyr n 0 FU am1 dfp ge1 dlA dletters lv1 dpu dpy rf1 (nI (rowsN (fun _ => 0) 0)) dsp duY vv rfl (Nat.zero_le _) (by show n < 1024; omega) (fun p hp => absurd hp (Nat.not_lt_zero _)) (fun p hp => absurd hp (Nat.not_lt_zero _)) (fun p hp => absurd hp (Nat.not_lt_zero _)) (fun p hp => absurd hp (Nat.not_lt_zero _)) (fun p hp => absurd hp (Nat.not_lt_zero _))
  obtain ⟨am3, fp3, ge3, lv3, pu3, rf3, rc3, sp3, uY3, vv3, e4, i1, i2, i3⟩ := R_B (errS := -1) W H hlc hy hd C X u 0 (FU - n) am2 dfp ge2 lv2 pu2 rf2 rc2 dsp duY vv2 (py := py2) rfl (Nat.zero_le _) (by show u < 1024 - n; have := W.u12; omega) (fun x hx => by rw [h1 x hx]; unfold prq; rw [if_neg (by omega)]; rfl) (fun v hv => absurd hv (Nat.not_lt_zero _)) (fun v hv => absurd hv (Nat.not_lt_zero _)) ⟨fun _ _ => false, h3, fun x c _ h => by cases h⟩
  refine ⟨am3, fp3, ge3, lA2, le2, lv3, pu3, py2, rf3, rc3, sp3, uY3, nI (tpL lc yr n ++ tuL n lc pr a b uy u).length, nI (tpL lc yr n ++ tuL n lc pr a b uy u).length, nI (tpL lc yr n ++ tuL n lc pr a b uy u).length, vv3, ?_, C, X, fun x hx => ?_, i2, i3⟩
  · have e1' : p1_refresh 0 0 dam dfp dge dlv dpu drf dsp = some (am1, ge1, lv1, rf1, nI (rowsN (fun _ => 0) 0)) := e1
    have e2' : p3_advance (nI (tpL lc yr n ++ tuL n lc pr a b uy u).length) kind start 0 value 0 bs = some ((tkP n u lc yr pr a b uy 0).1, (tkP n u lc yr pr a b uy 0).2.1, (tkP n u lc yr pr a b uy 0).2.2, vv) := e2
    have e3' := e3
    rw [Nat.add_zero] at e4
    rw [e4] at e3'
    have e3'' : p8_read_L17 bs (nI (tpL lc yr n ++ tuL n lc pr a b uy u).length) FU 0 am1 dfp ge1 dlA dletters lv1 dpu 0 dpy rf1 (nI (rowsN (fun _ => 0) 0)) dsp 0 duY 0 (-1) (tkP n u lc yr pr a b uy 0).1 (tkP n u lc yr pr a b uy 0).2.1 (tkP n u lc yr pr a b uy 0).2.2 vv = _ := e3'
    unfold p8_read p1_clear
    rw [e1']
    simp only [ob, uc5, uc7]
    unfold p3_open
    rw [e2']
    simp only [ob, uc4, uc8]
    rw [e3'']
    rfl
  · rw [i1 x hx]
    unfold prq
    rcases W.2.2.1 x hx with h | h
    · have := W.u12
      by_cases c : pr x < u ∨ (pr x = u ∧ x < 0)
      · rw [if_pos c]
      · rw [if_neg c, h]
    · rw [if_pos (Or.inl h)]
theorem R_load (W : WF n u pr a b g) (AN : ANC n pr a b an) (hn0 : 0 < n) (H : BFT (tpL lc yr n ++ tuL n lc pr a b uy u) bs) (hlc : ∀ p, p < n → 2 ≤ lc p ∧ lc p ≤ 8) (hyr : ∀ p, p < n → yr p ≤ 2100) (hy : ∀ w, w < u → uy w ≤ 2100) (hd : ∀ w, w < u → ¬ upair a b (a w) (b w) w 0 < 12) (dam dfp dge dlA dletters dlv dpu dpy drf dsp duY : Nat → Int32) (fam ffp fge flA fletters flv fpu fpy frf fsp fuY fb od po rs sb : Nat → Int32) (kind start value pc0 uc0 rc0 held : Int32) (kept : Bool) {M : Nat} (hM : (tpL lc yr n ++ tuL n lc pr a b uy u).length ≤ M) (hM8 : M ≤ 800) :
    ∃ d1 d2 d3 d4 d5 d6 d7 d8 d9 d10 d11 d12 d13 d14 am fp ge lA le lv pu py rf sp uY q1 q2 q3 q4 q5 q6 q7 q8 fb' od' po' rs' sb', p9_load (nI M) kind start value pc0 uc0 rc0 held kept dam dfp dge dlA dletters dlv dpu dpy drf dsp duY fam ffp fge flA fletters flv fpu fpy frf fsp fuY bs fb od po rs sb (nI (tpL lc yr n ++ tuL n lc pr a b uy u).length) =
      some (.inr (nI n, d1, d2, d3, d4, d5, d6, d7, d8, d9, d10, d11, d12, d13, d14, am, fp, ge, lA, le, lv, pu, nI n, py, rf, nI (rowsN g n), sp, nI u, uY, 0, false, q1, q2, q3, q4, q5, q6, q7, q8, fb', od', po', rs', sb')) ∧
      US n u pr a b g an (ppl n u a b g) (pbx n u a b g) ∧ UX n u pr a b g an (fun w => nI (uy w)) (ppl n u a b g) (pbx n u a b g) pu fp sp uY ge am lv rf od' rs' po' fb' sb' ∧ LCX n lc lA ∧ LTX n lc ltF le := by
  have hn := W.n16
  have hu := W.u12
  obtain ⟨am1, fp1, ge1, lA1, le1, lv1, pu1, py1, rf1, rc1, sp1, uY1, len, st, sp2, v, e1, C, X, h1, h2, h3⟩ := R_read W hn0 H hlc hyr hy hd dam dfp dge dlA dletters dlv dpu dpy drf dsp duY kind start value
  obtain ⟨le2, c1, k1⟩ := copy0 (N := 128) (M := 128) (c := 128) (f := le1) (t := fletters) (by omega) (by omega) (by omega) (by omega) (by omega)
  obtain ⟨lA2, c2, k2⟩ := copy0 (N := 16) (M := 16) (c := 16) (f := lA1) (t := flA) (by omega) (by omega) (by omega) (by omega) (by omega)
  obtain ⟨py2, c3, k3⟩ := copy0 (N := 16) (M := 16) (c := 16) (f := py1) (t := fpy) (by omega) (by omega) (by omega) (by omega) (by omega)
  obtain ⟨pu2, c4, k4⟩ := copy0 (N := 16) (M := 16) (c := 16) (f := pu1) (t := fpu) (by omega) (by omega) (by omega) (by omega) (by omega)
  obtain ⟨fp2, c5, k5⟩ := copy0 (N := 12) (M := 12) (c := 12) (f := fp1) (t := ffp) (by omega) (by omega) (by omega) (by omega) (by omega)
  obtain ⟨sp2', c6, k6⟩ := copy0 (N := 12) (M := 12) (c := 12) (f := sp1) (t := fsp) (by omega) (by omega) (by omega) (by omega) (by omega)
  obtain ⟨uY2, c7, k7⟩ := copy0 (N := 12) (M := 12) (c := 12) (f := uY1) (t := fuY) (by omega) (by omega) (by omega) (by omega) (by omega)
  have F : FX n u pr a b pu2 fp2 sp2' := ⟨fun p hp => by rw [k4 p (by omega), h1 p hp], fun w hw => by rw [k5 w (by omega), k6 w (by omega)]; exact h2 w hw⟩
  obtain ⟨am3, ge3, lv3, rf3, e3, R3⟩ := X1_refresh (am := fam) (ge := fge) (lv := flv) (rf := frf) W AN F
  obtain ⟨fb', od', po', rs', sb', e4, R4⟩ := X7_layPlain (fb := fb) (od := od) (po := po) (rs := rs) (sb := sb) W F R3
  refine ⟨am1, fp1, ge1, lA1, le1, lv1, pu1, nI n, py1, rf1, rc1, sp1, nI u, uY1, am3, fp2, ge3, lA2, le2, lv3, pu2, py2, rf3, sp2', uY2, 0, -1, 0, nI 0, len, st, sp2, v, fb', od', po', rs', sb', ?_, ⟨W, AN, LAY.plain⟩, ⟨F, fun w hw => by rw [k7 w (by omega), h3 w hw], R3, R4⟩, fun p hp => by rw [k2 p (by omega)]; exact C p hp, fun p hp i hi => by rw [k1 _ (by have := (hlc p hp).2; omega)]; exact X p hp i hi⟩
  have c1' : p9_copyCells 128 128 le1 fletters 0 0 128 = some le2 := c1
  have c2' : p9_copyCells 16 16 lA1 flA 0 0 16 = some lA2 := c2
  have c3' : p9_copyCells 16 16 py1 fpy 0 0 16 = some py2 := c3
  have c4' : p9_copyCells 16 16 pu1 fpu 0 0 16 = some pu2 := c4
  have c5' : p9_copyCells 12 12 fp1 ffp 0 0 12 = some fp2 := c5
  have c6' : p9_copyCells 12 12 sp1 fsp 0 0 12 = some sp2' := c6
  have c7' : p9_copyCells 12 12 uY1 fuY 0 0 12 = some uY2 := c7
  have hneg : ¬ nI (tpL lc yr n ++ tuL n lc pr a b uy u).length < (0 : Int32) := nI_pos (by omega)
  unfold p9_load
  rw [if_neg hneg, if_pos (nI_le hM (by omega)), e1]
  simp only [ob, uc23]
  first
    | rw [if_pos trivial]
    | rw [if_pos rfl]
  unfold p1_copyFrom
  rw [c1']
  simp only [ob]
  rw [c2']
  simp only []
  rw [c3']
  simp only []
  rw [c4']
  simp only []
  rw [c5']
  simp only []
  rw [c6']
  simp only []
  rw [c7']
  simp only []
  rw [e3]
  simp only [uc5, uc14]
  rw [e4]
  rfl
end YLOD
