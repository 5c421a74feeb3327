/-! told: the class's family is the one drawn -/
section YTEL
variable {n u : Nat} {lc yr pr a b g uy : Nat → Nat} {an : Nat → Nat → Bool} {letters year pn : Nat → Int32} {un : Nat → Nat → Int32}
theorem R_tell (D : DRW n u pr a b g an uy pn un) (hn4 : 4 ≤ n) (hn13 : n ≤ 13) (hu9 : u ≤ 9) (hp : ∀ p, p < n → letters p = nI (lc p) ∧ 2 ≤ lc p ∧ lc p ≤ 8 ∧ year p = nI (yr p) ∧ yr p ≤ 2100) (dam dfp dge dlA dletters dlv dpu dpy drf dsp duY : Nat → Int32) (fam ffp fge flA fletters flv fpu fpy frf fsp fuY bs fb od po rs sb : Nat → Int32) (kind start value pc0 uc0 rc0 held : Int32) (kept : Bool) :
    ∃ d1 d2 d3 d4 d5 d6 d7 d8 d9 d10 d11 d12 d13 d14 am fp ge lA le lv pu py rf sp uY bs' q1 q2 q3 q4 q5 q6 q7 q8 p1' fb' od' po' rs' sb', pL_tell 6 0 kind start value pc0 uc0 rc0 held kept (nI n) (nI u) dam dfp dge dlA dletters dlv dpu dpy drf dsp duY fam ffp fge flA fletters flv fpu fpy frf fsp fuY bs letters pn year (fun _ => 0) fb od po rs sb un u =
      some (nI n, d1, d2, d3, d4, d5, d6, d7, d8, d9, d10, d11, d12, d13, d14, am, fp, ge, lA, le, lv, pu, nI n, py, rf, nI (rowsN g n), sp, nI u, uY, 0, false, bs', q1, q2, q3, q4, q5, q6, q7, q8, p1', fb', od', po', rs', sb') ∧
      US n u pr a b g an (ppl n u a b g) (pbx n u a b g) ∧ UX n u pr a b g an (fun w => nI (uy w)) (ppl n u a b g) (pbx n u a b g) pu fp sp uY ge am lv rf od' rs' po' fb' sb' ∧ LCX n lc lA ∧ LTX n lc ltF le := by
  obtain ⟨W, AN, F, Y, hd⟩ := D
  have hl8 : ∀ p, p < n → letters p = nI (lc p) ∧ lc p ≤ 8 := fun p h => ⟨(hp p h).1, (hp p h).2.2.1⟩
  obtain ⟨b1, f1, q1, e1, H1⟩ := W_persons (n := n) (letters := letters) (year := year) (lc := lc) (yr := yr) (by omega) hl8 (fun p h => ⟨(hp p h).2.2.2.1, (hp p h).2.2.2.2⟩) (bytes := bs) (fun m hm => by
    have := tpL_len (yr := yr) (fun p hp => (hl8 p hp).2) m hm
    omega)
  obtain ⟨b2, f2, q2, e2, H2, hl⟩ := W_unions (u := u) (pr := pr) (a := a) (b := b) (uy := uy) (pn := pn) (un := un) hn13 hu9 hl8 F.1 (fun w hw => ⟨(F.2.2 w hw).1, (F.2.2 w hw).2, (Y w hw).1, (Y w hw).2, (W.par hw).1, (W.par hw).2.1⟩) H1
  obtain ⟨b3, M, q3, e3, hM, hM8, hb3⟩ := W_end H2 hl
  have HB : BFT (tpL lc yr n ++ tuL n lc pr a b uy u) b3 := ⟨by omega, hb3, H2.1⟩
  obtain ⟨d1, d2, d3, d4, d5, d6, d7, d8, d9, d10, d11, d12, d13, d14, am, fp, ge, lA, le, lv, pu, py, rf, sp, uY, z1, z2, z3, z4, z5, z6, z7, z8, fb', od', po', rs', sb', e4, U', X', C', T'⟩ := R_load W AN (by omega) HB (fun p h => ⟨(hp p h).2.1, (hp p h).2.2.1⟩) (fun p h => (hp p h).2.2.2.2) (fun w hw => (Y w hw).2) hd dam dfp dge dlA dletters dlv dpu dpy drf dsp duY fam ffp fge flA fletters flv fpu fpy frf fsp fuY fb od po rs sb kind start value pc0 uc0 rc0 held kept hM (by omega)
  refine ⟨d1, d2, d3, d4, d5, d6, d7, d8, d9, d10, d11, d12, d13, d14, am, fp, ge, lA, le, lv, pu, py, rf, sp, uY, b3, z1, z2, z3, z4, z5, z6, z7, z8, q3, fb', od', po', rs', sb', ?_, U', X', C', T'⟩
  unfold pL_tell
  rw [e1]
  simp only [ob, uc3, pL_tell_J50]
  rw [e2]
  simp only [ob, uc3, pL_tell_J177]
  rw [e3]
  simp only [ob, uc4]
  rw [e4]
  rfl
end YTEL
theorem ob_r {α β : Type} {x : Option α} {k : α → Option β} {z : α} (h : x = some z) : ob x k = k z := by rw [h]; rfl
theorem os_r {α β γ : Type} {x : Option (α ⊕ β)} {f : α → Option γ} {k : β → Option γ} {z : β} (h : x = some (.inr z)) : os x f k = k z := by rw [h]; rfl
theorem cnd {α : Type} {x y : α} : cond true x y = x := rfl
theorem uc2_b {T0 T1 Z : Type} {k : T0 → T1 → Z} {x0 : T0} {x1 : T1} : uc2 k (x0, x1) = k x0 x1 := rfl
theorem uc3_b {T0 T1 T2 Z : Type} {k : T0 → T1 → T2 → Z} {x0 : T0} {x1 : T1} {x2 : T2} : uc3 k (x0, x1, x2) = k x0 x1 x2 := rfl
theorem uc5_b {T0 T1 T2 T3 T4 Z : Type} {k : T0 → T1 → T2 → T3 → T4 → Z} {x0 : T0} {x1 : T1} {x2 : T2} {x3 : T3} {x4 : T4} : uc5 k (x0, x1, x2, x3, x4) = k x0 x1 x2 x3 x4 := rfl
theorem uc7_b {T0 T1 T2 T3 T4 T5 T6 Z : Type} {k : T0 → T1 → T2 → T3 → T4 → T5 → T6 → Z} {x0 : T0} {x1 : T1} {x2 : T2} {x3 : T3} {x4 : T4} {x5 : T5} {x6 : T6} : uc7 k (x0, x1, x2, x3, x4, x5, x6) = k x0 x1 x2 x3 x4 x5 x6 := rfl
theorem uc8_b {T0 T1 T2 T3 T4 T5 T6 T7 Z : Type} {k : T0 → T1 → T2 → T3 → T4 → T5 → T6 → T7 → Z} {x0 : T0} {x1 : T1} {x2 : T2} {x3 : T3} {x4 : T4} {x5 : T5} {x6 : T6} {x7 : T7} : uc8 k (x0, x1, x2, x3, x4, x5, x6, x7) = k x0 x1 x2 x3 x4 x5 x6 x7 := rfl
theorem uc13_b {T0 T1 T2 T3 T4 T5 T6 T7 T8 T9 T10 T11 T12 Z : Type} {k : T0 → T1 → T2 → T3 → T4 → T5 → T6 → T7 → T8 → T9 → T10 → T11 → T12 → Z} {x0 : T0} {x1 : T1} {x2 : T2} {x3 : T3} {x4 : T4} {x5 : T5} {x6 : T6} {x7 : T7} {x8 : T8} {x9 : T9} {x10 : T10} {x11 : T11} {x12 : T12} : uc13 k (x0, x1, x2, x3, x4, x5, x6, x7, x8, x9, x10, x11, x12) = k x0 x1 x2 x3 x4 x5 x6 x7 x8 x9 x10 x11 x12 := rfl
theorem uc18_b {T0 T1 T2 T3 T4 T5 T6 T7 T8 T9 T10 T11 T12 T13 T14 T15 T16 T17 Z : Type} {k : T0 → T1 → T2 → T3 → T4 → T5 → T6 → T7 → T8 → T9 → T10 → T11 → T12 → T13 → T14 → T15 → T16 → T17 → Z} {x0 : T0} {x1 : T1} {x2 : T2} {x3 : T3} {x4 : T4} {x5 : T5} {x6 : T6} {x7 : T7} {x8 : T8} {x9 : T9} {x10 : T10} {x11 : T11} {x12 : T12} {x13 : T13} {x14 : T14} {x15 : T15} {x16 : T16} {x17 : T17} : uc18 k (x0, x1, x2, x3, x4, x5, x6, x7, x8, x9, x10, x11, x12, x13, x14, x15, x16, x17) = k x0 x1 x2 x3 x4 x5 x6 x7 x8 x9 x10 x11 x12 x13 x14 x15 x16 x17 := rfl
theorem uc39_b {T0 T1 T2 T3 T4 T5 T6 T7 T8 T9 T10 T11 T12 T13 T14 T15 T16 T17 T18 T19 T20 T21 T22 T23 T24 T25 T26 T27 T28 T29 T30 T31 T32 T33 T34 T35 T36 T37 T38 Z : Type} {k : T0 → T1 → T2 → T3 → T4 → T5 → T6 → T7 → T8 → T9 → T10 → T11 → T12 → T13 → T14 → T15 → T16 → T17 → T18 → T19 → T20 → T21 → T22 → T23 → T24 → T25 → T26 → T27 → T28 → T29 → T30 → T31 → T32 → T33 → T34 → T35 → T36 → T37 → T38 → Z} {x0 : T0} {x1 : T1} {x2 : T2} {x3 : T3} {x4 : T4} {x5 : T5} {x6 : T6} {x7 : T7} {x8 : T8} {x9 : T9} {x10 : T10} {x11 : T11} {x12 : T12} {x13 : T13} {x14 : T14} {x15 : T15} {x16 : T16} {x17 : T17} {x18 : T18} {x19 : T19} {x20 : T20} {x21 : T21} {x22 : T22} {x23 : T23} {x24 : T24} {x25 : T25} {x26 : T26} {x27 : T27} {x28 : T28} {x29 : T29} {x30 : T30} {x31 : T31} {x32 : T32} {x33 : T33} {x34 : T34} {x35 : T35} {x36 : T36} {x37 : T37} {x38 : T38} : uc39 k (x0, x1, x2, x3, x4, x5, x6, x7, x8, x9, x10, x11, x12, x13, x14, x15, x16, x17, x18, x19, x20, x21, x22, x23, x24, x25, x26, x27, x28, x29, x30, x31, x32, x33, x34, x35, x36, x37, x38) = k x0 x1 x2 x3 x4 x5 x6 x7 x8 x9 x10 x11 x12 x13 x14 x15 x16 x17 x18 x19 x20 x21 x22 x23 x24 x25 x26 x27 x28 x29 x30 x31 x32 x33 x34 x35 x36 x37 x38 := rfl
theorem uc46_b {T0 T1 T2 T3 T4 T5 T6 T7 T8 T9 T10 T11 T12 T13 T14 T15 T16 T17 T18 T19 T20 T21 T22 T23 T24 T25 T26 T27 T28 T29 T30 T31 T32 T33 T34 T35 T36 T37 T38 T39 T40 T41 T42 T43 T44 T45 Z : Type} {k : T0 → T1 → T2 → T3 → T4 → T5 → T6 → T7 → T8 → T9 → T10 → T11 → T12 → T13 → T14 → T15 → T16 → T17 → T18 → T19 → T20 → T21 → T22 → T23 → T24 → T25 → T26 → T27 → T28 → T29 → T30 → T31 → T32 → T33 → T34 → T35 → T36 → T37 → T38 → T39 → T40 → T41 → T42 → T43 → T44 → T45 → Z} {x0 : T0} {x1 : T1} {x2 : T2} {x3 : T3} {x4 : T4} {x5 : T5} {x6 : T6} {x7 : T7} {x8 : T8} {x9 : T9} {x10 : T10} {x11 : T11} {x12 : T12} {x13 : T13} {x14 : T14} {x15 : T15} {x16 : T16} {x17 : T17} {x18 : T18} {x19 : T19} {x20 : T20} {x21 : T21} {x22 : T22} {x23 : T23} {x24 : T24} {x25 : T25} {x26 : T26} {x27 : T27} {x28 : T28} {x29 : T29} {x30 : T30} {x31 : T31} {x32 : T32} {x33 : T33} {x34 : T34} {x35 : T35} {x36 : T36} {x37 : T37} {x38 : T38} {x39 : T39} {x40 : T40} {x41 : T41} {x42 : T42} {x43 : T43} {x44 : T44} {x45 : T45} : uc46 k (x0, x1, x2, x3, x4, x5, x6, x7, x8, x9, x10, x11, x12, x13, x14, x15, x16, x17, x18, x19, x20, x21, x22, x23, x24, x25, x26, x27, x28, x29, x30, x31, x32, x33, x34, x35, x36, x37, x38, x39, x40, x41, x42, x43, x44, x45) = k x0 x1 x2 x3 x4 x5 x6 x7 x8 x9 x10 x11 x12 x13 x14 x15 x16 x17 x18 x19 x20 x21 x22 x23 x24 x25 x26 x27 x28 x29 x30 x31 x32 x33 x34 x35 x36 x37 x38 x39 x40 x41 x42 x43 x44 x45 := rfl
/-! the law's answer -/
set_option maxHeartbeats 8000000 in
theorem law_true (adV : Nat → Nat) (hA : adV 21 ≤ 260) : pL_law adV = some true := by
  obtain ⟨W0, AN0⟩ := WF12 (n := 0) (w := 0) (a := fun _ => 0) (b := fun _ => 0) (by omega) (by omega) (fun v hv => absurd hv (Nat.not_lt_zero _))
  have hth : ∀ x, th 0 0 (fun _ => 0) (fun _ => 0) (fun _ => 0) x = false := fun x => by
    unfold th
    by_cases c : x < 16
    · rw [if_pos c]; exact decide_eq_false (Nat.not_lt_zero _)
    · rw [if_neg c, decide_eq_false (Nat.not_lt_zero _), Bool.false_and]
  have hsz : ∀ r, sz 0 0 (fun _ => 0) (fun _ => 0) (fun _ => 0) r = 0 := fun r => by
    unfold sz
    rw [cnt_sm, sm_congr (g := fun _ => 0) (fun i _ => if_neg (by unfold inr; rw [hth, Bool.false_and]; simp)), sm_zero]
  have U0 : US 0 0 (fun _ => 12) (fun _ => 0) (fun _ => 0) (fun _ => 0) (fun _ _ => false) (fun _ => 0) (fun _ _ => 0) := ⟨W0, AN0, ⟨fun x hx h => absurd h (by rw [hth x]; exact Bool.false_ne_true), fun r k hk => absurd hk (by rw [hsz r]; omega)⟩⟩
  have X0 : UX 0 0 (fun _ => 12) (fun _ => 0) (fun _ => 0) (fun _ => 0) (fun _ _ => false) (fun _ => 0) (fun _ => 0) (fun _ _ => 0) (fun _ => 0) (fun _ => 0) (fun _ => 0) (fun _ => 0) (fun _ => 0) (fun _ => 0) (fun _ => 0) (fun _ => 0) (fun _ => 0) (fun _ => 0) (fun _ => 0) (fun _ => 0) (fun _ => 0) := by
    refine ⟨⟨fun p hp => absurd hp (Nat.not_lt_zero _), fun w hw => absurd hw (Nat.not_lt_zero _)⟩, fun w hw => absurd hw (Nat.not_lt_zero _), ⟨fun p hp => absurd hp (Nat.not_lt_zero _), fun w hw => absurd hw (Nat.not_lt_zero _)⟩, fun r hr => ?_, fun r k hr => absurd hr (Nat.not_lt_zero _), fun x hx h => absurd h (by rw [hth x]; exact Bool.false_ne_true), fun w hw => absurd hw (Nat.not_lt_zero _)⟩
    have h0 : r = 0 := Nat.le_zero.mp hr
    rw [h0]
    rfl
  have H0 : HISt 0 (fun _ => 0) 0 0 0 (fun _ => (0, (fun _ => 12), (fun _ => 0), (fun _ => 0), (fun _ => 0), (fun _ _ => false), (fun _ => 0), (fun _ => 0), (fun _ _ => 0))) := ⟨by omega, 0, by omega, rfl, rfl, fun i hi => absurd hi (Nat.not_lt_zero _)⟩
  obtain ⟨hc1, held1, next1, fb1, od1, po1, rs1, sb1, e1, U1, X1, H1, -⟩ := K_plain (rc := nI (rowsN (fun _ => 0) 0)) U0 X0 rfl H0
  obtain ⟨am2, fp2, ge2, lv2, pu2, rf2, sp2, uY2, held2, next2, fb2, od2, po2, rs2, sb2, e2, U2, X2, H2⟩ := K_undo (am := fun _ => 0) (fp := fun _ => 0) (ge := fun _ => 0) (lv := fun _ => 0) (pu := fun _ => 0) (rf := fun _ => 0) (sp := fun _ => 0) (uY := fun _ => 0) (fb := fb1) (od := od1) (po := po1) (rs := rs1) (sb := sb1) (uc := nI 0) (rc := nI (rowsN (fun _ => 0) 0)) (h := 0) H1 rfl
  have hheld1 : held1 = nI 1 := by
    obtain ⟨-, x9, -, z9, -⟩ := H1
    exact z9
  obtain ⟨-, xn, hxn, -, hnx, -⟩ := H2
  obtain ⟨n, u, pr, a, b, g, an, uy, lc, yr, gens, letters, levels, pn, year, un, ln, odd, e3, hn4, hn13, hu9, D, G, O, hp⟩ := R_drawn hA
  have W := D.1
  obtain ⟨d1, d2, d3, d4, d5, d6, d7, d8, d9, d10, d11, d12, d13, d14, am, fp, ge, lA, le, lv, pu, py, rf, sp, uY, bs', z1, z2, z3, z4, z5, z6, z7, z8, p1', fb, od, po, rs, sb, e4, U, X, C, T⟩ := R_tell D hn4 hn13 hu9 hp (fun _ => 0) (fun _ => 0) (fun _ => 0) (fun _ => 0) (fun _ => 0) (fun _ => 0) (fun _ => 0) (fun _ => 0) (fun _ => 0) (fun _ => 0) (fun _ => 0) am2 fp2 ge2 (fun _ => 0) (fun _ => 0) lv2 pu2 (fun _ => 0) rf2 sp2 uY2 (fun _ => 0) fb2 od2 po2 rs2 sb2 0 0 0 0 (nI 0) (nI (rowsN (fun _ => 0) 0)) held2 false
  have hlc : ∀ p, p < n → lc p ≤ 8 := fun p h => (hp p h).2.2.1
  obtain ⟨fc5, mc5, ek5, ew5, e5⟩ := S_sound (e0 := fun _ => 0) (wy := fun _ => 0) (fc := fun _ => 0) (mc := fun _ => 0) (py := py) U X C hlc
  obtain ⟨x6, e6⟩ := M_cell hA (k := 32) (by omega)
  obtain ⟨k7, hk7, e7⟩ := M_most x6 (m := 40) (by omega) (by omega)
  obtain ⟨fc8, mc8, line8, len8, text8, tl8, e8, B8⟩ := P_printed (fc := fc5) (mc := mc5) (py := py) (lt := ltF) (line := fun _ => 0) (len := 400) (text := fun _ => 0) (tl := 0) U X C T hlc ⟨400, by omega, rfl, fun c h1 h2 => by omega⟩ (w := 10 + k7) (by omega) (by omega)
  have H9 : HISt n hc1 next2 0 0 (fun _ => (u, pr, a, b, g, an, (fun w => nI (uy w)), ppl n u a b g, pbx n u a b g)) := ⟨by omega, xn, hxn, rfl, hnx, fun i hi => absurd hi (Nat.not_lt_zero _)⟩
  obtain ⟨hc10, e10, H10, S10⟩ := K_snap U X H9
  have e11 := D_all (fc := fc8) (mc := mc8) (lA := lA) (py := py) U X
  have e12 := D.2.2.1
  have I0 : LINV n (u, pr, a, b, g, an, (fun w => nI (uy w)), ppl n u a b g, pbx n u a b g) ((0, (fun _ => 0), fc8, mc8, ek5, ew5), line8, (len8, text8, tl8), am, fp, ge, lv, pu, rf, nI (rowsN g n), sp, nI u, uY, hc10, 0, next2, gens, levels, ln, rowsN g n, u, odd, pn, nI (rowsN g n), un, nI u, fb, (fun _ => 0), od, po, rs, sb) := ⟨B8, (u, pr, a, b, g, an, (fun w => nI (uy w)), ppl n u a b g, pbx n u a b g), 0, _, ⟨rfl, rfl, rfl, rfl, U, X, H10, S10, e12, G, O⟩, rfl, fun j hj => absurd hj (Nat.not_lt_zero _)⟩
  obtain ⟨s', e13, I'⟩ := T_113 (adV := adV) (py := py) C T hlc hA (by omega) _ I0
  obtain ⟨⟨v7, N7, fc, mc, ee, ww⟩, line, ⟨len, text, tl⟩, am', fp', ge', lv', pu', rf', rc', sp', uc', uY', hc', held', next', gens', levels', ln', no', nu', od2', pn', rw2', un', un2', fb', ks', od', po', rs', sb'⟩ := s'
  obtain ⟨B', ⟨u', pr', a', b', g', an', uy', pl', bx'⟩, h', hs', ⟨r1, r2, r3, r4, U', X', H', S', F', G', O'⟩, r5, r6⟩ := I'
  dsimp only at e13 r1 r2 r3 r4 U' X' H' S' F' G' O' r5 r6
  subst r1 r2 r3 r4 r5
  have e1' : p9_plain 0 0 0 0 0 (fun _ => 0) (fun _ => 0) (fun _ => 0) (fun _ => 0) (fun _ => 0) (fun _ => 0) (fun _ => 0) (fun _ => 0) (fun _ => 0) (fun _ => 0) (fun _ => 0) (fun _ => 0) (fun _ => 0) = some (hc1, held1, next1, fb1, od1, po1, rs1, sb1) := e1
  have e2' : p9_undo 0 0 0 next1 held1 (fun _ => 0) (fun _ => 0) (fun _ => 0) (fun _ => 0) (fun _ => 0) (fun _ => 0) (fun _ => 0) (fun _ => 0) hc1 fb1 od1 po1 rs1 sb1 = some (nI 0, am2, fp2, ge2, lv2, pu2, rf2, nI (rowsN (fun _ => 0) 0), sp2, nI 0, uY2, held2, next2, fb2, od2, po2, rs2, sb2) := e2
  have e3a := A_count3 (pn := (0 : Int32)) (uc := nI 0) (fp := fp2) (pu := pu2) (sp := sp2) W0 X2.2.2.2.1
  have hrc0 : RCN 0 (fun _ => 0) (fun _ => 0) (fun _ => 0) = 0 := Nat.le_zero.mp (RCN_le W0)
  rw [hrc0] at e3a
  unfold pL_law
  rw [ob_r e1', uc8_b]
  try dsimp only
  rw [show p9_undoCount held1 = held1 from rfl, hheld1, if_pos (show nI 1 = (1 : Int32) from rfl)]
  rw [hheld1] at e2'
  rw [ob_r e2', uc18_b]
  try dsimp only
  rw [if_pos (show nI 0 = (0 : Int32) from rfl), ob_r e3a]
  try dsimp only
  first
    | rw [if_pos (show nI (0 + 0) = (0 : Int32) from rfl)]
    | rw [if_pos (show nI 0 = (0 : Int32) from rfl)]
  rw [ob_r e3, uc13_b]
  try dsimp only
  rw [ob_r e4, uc46_b]
  try dsimp only
  rw [if_pos (show nI n = nI n from rfl), ob_r e5, uc5_b]
  try dsimp only
  rw [cnd, ob_r (show pL_cell adV 32 = some x6 from e6)]
  try dsimp only
  rw [ob_r (show pL_most x6 40 = some (nI k7) from e7)]
  try dsimp only
  rw [show (10 : Int32) + nI k7 = nI (10 + k7) by rw [n10, nI_add], ob_r e8, uc7_b]
  try dsimp only
  rw [cnd, ob_r e10, uc2_b]
  try dsimp only
  rw [ob_r e11, uc3_b]
  try dsimp only
  rw [os_r e13, uc39_b]
  rw [show DG n u pr a b g (ppl n u a b g) = DGt n (u, pr, a, b, g, an, (fun w => nI (uy w)), ppl n u a b g, pbx n u a b g) from rfl]
  exact T_293 (t0 := (u, pr, a, b, g, an, (fun w => nI (uy w)), ppl n u a b g, pbx n u a b g)) (h := h') (N := N7) U' X' H' S' C hlc hA (by omega) r6
