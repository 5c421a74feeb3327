/-! load, feed, errorPosition -/
def BI (filled bl : Int32) (bs bf : Nat → Int32) : Prop := ∃ B f, filled = nI f ∧ bl = nI f ∧ BUF B f bs bf
theorem BUF.mono {B : Nat → Nat} {L L' : Nat} {bs bf : Nat → Int32} (H : BUF B L bs bf) (h : L' ≤ L) : BUF B L' bs bf := ⟨by have := H.1; omega, fun i hi => H.2 i (by omega)⟩
theorem copy0 {N M c : Nat} {f t : Nat → Int32} (hi : c ≤ N) (hj : c ≤ M) (hn : N < 100000) (hm : M < 100000) (hc : c ≤ 1000) : ∃ t', p9_copyCells N M f t 0 0 (nI c) = some t' ∧ ∀ k, k < c → t' k = f k := by
  obtain ⟨t', e, h, -⟩ := X9_copy (n := N) (m := M) (i := 0) (j := 0) (c := c) (f := f) (t := t) (by omega) (by omega) hn hm hc
  exact ⟨t', e, fun k hk => by have := h k hk; rw [Nat.zero_add] at this; exact this⟩
section LOADX
variable {fam mh ms draft : Nat → Int64} {o : Nat → Int64} {hc bs bf lA letters py pu fp sp uY ge am lv rf od rs po fb sb bA gM lM ro rS : Nat → Int32} {dle dlA dpy dpu dfp dsp duY dge dam dlv drf : Nat → Int32} {it : Nat → Bool} {kept has : Bool} {pc uc rc R next held uH dpc duc drc : Int32} {filled len kind start stop val code errS bl limit nxt beg tok err errAt errPos nested : Int32} {nL : Nat} {xs : Nat → Int32} {v4 : Int32}
theorem copy_ok (D : DD pc uc dlA dle dpy dpu dfp dsp duY fam) :
    ∃ (n u : Nat) (pr a b g : Nat → Nat) (an : Nat → Nat → Bool) (lc : Nat → Nat) (lt : Nat → Nat → Nat) (yr uy : Nat → Int32) (am' fp' ge' lA' le' lv' pu' py' rf' sp' uY' : Nat → Int32), pc = nI n ∧ uc = nI u ∧ p1_copyFrom pc uc dfp dlA dle dpu dpy dsp duY am fp ge lA letters lv pu py rf sp uY = some (am', fp', ge', lA', le', lv', pu', nI n, py', rf', nI (rowsN g n), sp', nI u, uY') ∧
      WF n u pr a b g ∧ ANC n pr a b an ∧ PC n lc lt ∧ PX n lc lt yr lA' le' py' ∧ FX n u pr a b pu' fp' sp' ∧ (∀ w, w < u → uY' w = uy w) ∧ RF n u a b g an ge' am' lv' rf' ∧ MX n u pr a b fam ∧ PM n lc lt yr fam ∧ ∀ w, w < u → fam (66 + 3 * w + 2) = (uy w).toInt64 := by
  obtain ⟨n, u, pr, a, b, g, an, lc, lt, yr, uy, rfl, rfl, W, AN, hC, hX, F, hY, FM, PMf, hUy⟩ := D
  have hn := W.n16
  have hu := W.u12
  obtain ⟨le', e1, h1⟩ := copy0 (N := 128) (M := 128) (c := 128) (f := dle) (t := letters) (by omega) (by omega) (by omega) (by omega) (by omega)
  obtain ⟨lA', e2, h2⟩ := copy0 (N := 16) (M := 16) (c := 16) (f := dlA) (t := lA) (by omega) (by omega) (by omega) (by omega) (by omega)
  obtain ⟨py', e3, h3⟩ := copy0 (N := 16) (M := 16) (c := 16) (f := dpy) (t := py) (by omega) (by omega) (by omega) (by omega) (by omega)
  obtain ⟨pu', e4, h4⟩ := copy0 (N := 16) (M := 16) (c := 16) (f := dpu) (t := pu) (by omega) (by omega) (by omega) (by omega) (by omega)
  obtain ⟨fp', e5, h5⟩ := copy0 (N := 12) (M := 12) (c := 12) (f := dfp) (t := fp) (by omega) (by omega) (by omega) (by omega) (by omega)
  obtain ⟨sp', e6, h6⟩ := copy0 (N := 12) (M := 12) (c := 12) (f := dsp) (t := sp) (by omega) (by omega) (by omega) (by omega) (by omega)
  obtain ⟨uY', e7, h7⟩ := copy0 (N := 12) (M := 12) (c := 12) (f := duY) (t := uY) (by omega) (by omega) (by omega) (by omega) (by omega)
  have F' : FX n u pr a b pu' fp' sp' := ⟨fun p hp => by rw [h4 p (by omega)]; exact F.1 p hp, fun w hw => by rw [h5 w (by omega), h6 w (by omega)]; exact F.2 w hw⟩
  obtain ⟨am', ge', lv', rf', e8, R8⟩ := X1_refresh (am := am) (ge := ge) (lv := lv) (rf := rf) W AN F'
  refine ⟨n, u, pr, a, b, g, an, lc, lt, yr, uy, am', fp', ge', lA', le', lv', pu', py', rf', sp', uY', rfl, rfl, ?_, W, AN, hC, ⟨fun p hp => by rw [h2 p (by omega)]; exact hX.1 p hp, fun p hp i hi => ?_, fun p hp => by rw [h3 p (by omega)]; exact hX.2.2 p hp⟩, F', fun w hw => by rw [h7 w (by omega)]; exact hY w hw, R8, FM, PMf, hUy⟩
  · unfold p1_copyFrom
    rw [n128, e1]
    simp only [ob]
    rw [n16, e2]
    simp only []
    rw [e3]
    simp only []
    rw [e4]
    simp only []
    rw [n12, e5]
    simp only []
    rw [e6]
    simp only []
    rw [e7]
    simp only []
    rw [e8]
    rfl
  · have := hC.1 p hp
    rw [h1 _ (by omega)]
    exact hX.2.1 p hp i hi
theorem M_zero : ∃ z, p10_load_L27 FU 0 draft = some z ∧ ∀ j, j < 130 → z j = 0 := by
  obtain ⟨z, e1, h1⟩ := loop_all (fun t i (z : Nat → Int64) => p10_load_L27 t (nI i) z) 130 (fun i z => ∀ j, j < i → z j = 0) (fun z => ∀ j, j < 130 → z j = 0) (by
    intro t z hz
    refine ⟨z, ?_, hz⟩
    try dsimp only
    rw [p10_load_L27, p10_load_L27_B, show (130 : Int32) = nI 130 from rfl, if_pos (nI_le (Nat.le_refl _) (by omega))]) (by
    intro t i z hi hz
    refine ⟨vp_updL z i 0, ?_, fun j hj => ?_⟩
    · try dsimp only
      rw [p10_load_L27, p10_load_L27_B, show (130 : Int32) = nI 130 from rfl, if_neg (nI_ge hi (by omega)), gd_in (by omega) (by omega), nI_clamp (by omega)]
      simp only [lb_eq]
      rw [n1, nI_add]
    · by_cases e : j = i
      · rw [e, updL_eq]
      · rw [updL_ne e]; exact hz j (by omega)) FU 0 draft (Nat.zero_le _) (by decide) (fun j hj => absurd hj (Nat.not_lt_zero _))
  exact ⟨z, e1, h1⟩
/-- the reading itself, on both sides -/
theorem read_ok {B : Nat → Nat} {L : Nat} (H : BUF B L bs bf) {z : Nat → Int64} (hz : ∀ j, j < 130 → z j = 0) (kind start val errorAt : Int32) :
    ∃ am' fp' ge' lA' letters' lv' pu' pc' py' rf' rc' sp' uc' uY' code' errS' kind' start' stop' value' b0 n0' t0 begins' fam' error' errorAt' next' token',
      p8_read kind start val dam dfp dge dlA dle dlv dpu dpy drf dsp duY bs (nI L) = some (code', am', fp', ge', lA', letters', lv', pu', pc', py', rf', rc', sp', uc', uY', code', errS', 0, kind', nI L, start', stop', value') ∧
      p10_startText bf (nI L) = some (b0, 0, nI L, 0, n0', t0) ∧ p10_load_L60 bf (nI L) FU b0 z 0 errorAt n0' t0 = some (begins', fam', error', errorAt', next', token') ∧
      LOUT pc' uc' lA' letters' py' pu' fp' sp' uY' fam' code' errS' error' errorAt' := by
  have hL := H.1
  have W0 : WF 0 0 (fun _ => 12) (fun _ => 0) (fun _ => 0) (fun _ => 0) := ⟨by omega, by omega, fun p hp => absurd hp (Nat.not_lt_zero _), fun p hp => absurd hp (Nat.not_lt_zero _), fun p hp => absurd hp (Nat.not_lt_zero _), fun p hp => absurd hp (Nat.not_lt_zero _)⟩
  have AN0 : ANC 0 (fun _ => 12) (fun _ => 0) (fun _ => 0) (fun _ _ => false) := fun p hp => absurd hp (Nat.not_lt_zero _)
  have F0 : FX 0 0 (fun _ => 12) (fun _ => 0) (fun _ => 0) dpu dfp dsp := ⟨fun p hp => absurd hp (Nat.not_lt_zero _), fun p hp => absurd hp (Nat.not_lt_zero _)⟩
  obtain ⟨am1, ge1, lv1, rf1, e1, R1⟩ := X1_refresh (am := dam) (ge := dge) (lv := dlv) (rf := drf) W0 AN0 F0
  obtain ⟨v, e2, V⟩ := X3_advance H (Nat.zero_le _) kind start val
  obtain ⟨P, hp⟩ := tok_PT (B := B) (L := L) (Nat.zero_le _)
  have DR0 : DR 0 0 dlA dle dpy dpu dfp dsp duY am1 z := by
    refine ⟨0, 0, _, _, _, _, _, fun _ => 0, fun _ _ => 1, fun _ => 0, fun _ => 0, rfl, rfl, W0, AN0, ⟨fun p hp => absurd hp (Nat.not_lt_zero _), fun p hp => absurd hp (Nat.not_lt_zero _)⟩, ⟨fun p hp => absurd hp (Nat.not_lt_zero _), fun p hp => absurd hp (Nat.not_lt_zero _), fun p hp => absurd hp (Nat.not_lt_zero _)⟩, F0, fun p hp => absurd hp (Nat.not_lt_zero _), ⟨by rw [hz 0 (by omega)]; rfl, by rw [hz 1 (by omega)]; rfl, fun p hp => absurd hp (Nat.not_lt_zero _), fun p hp => absurd hp (Nat.not_lt_zero _)⟩, ⟨fun p hp => absurd hp (Nat.not_lt_zero _), fun p hp => absurd hp (Nat.not_lt_zero _), fun p hp => absurd hp (Nat.not_lt_zero _)⟩, fun p hp => absurd hp (Nat.not_lt_zero _), fun p hp => absurd hp (Nat.not_lt_zero _)⟩
  obtain ⟨am', fp', ge', lA', letters', lv', pu', pc', py', rf', rc', sp', uc', uY', code', errS', kind', start', stop', value', begins', fam', error', errorAt', next', token', q1, q2, LO⟩ := load_loop H 800 0 (tS B L 0) (tE B L 0) (tK B L 0) v errorAt 0 0 (nI (rowsN (fun _ => 0) 0)) dlA dle dpy dpu dfp dsp duY am1 ge1 lv1 rf1 z FU FU (by omega) (by decide) (by decide) P V hp DR0
  refine ⟨am', fp', ge', lA', letters', lv', pu', pc', py', rf', rc', sp', uc', uY', code', errS', kind', start', stop', value', nI (tS B L 0), nI (tE B L 0), nI (tK B L 0), begins', fam', error', errorAt', next', token', ?_, ?_, q2, LO⟩
  · unfold p8_read p1_clear p3_open
    rw [show (p1_refresh 0 0 dam dfp dge dlv dpu drf dsp) = _ from e1]
    simp only [ob, uc5, uc7]
    rw [show (p3_advance (nI L) kind start 0 val 0 bs) = _ from e2]
    simp only [ob, uc4, uc8]
    rw [show (p8_read_L17 bs (nI L) FU 0 am1 dfp ge1 dlA dle lv1 dpu 0 dpy rf1 (nI (rowsN (fun _ => 0) 0)) dsp 0 duY 0 (-1) (nI (tK B L 0)) (nI (tS B L 0)) (nI (tE B L 0)) v) = _ from q1]
    rfl
  · unfold p10_startText
    rw [show p10_scan (nI L) 0 bf = _ from M_scan H (Nat.zero_le _)]
    rfl
theorem uc2_q {T0 T1 Z : Type} {k : T0 → T1 → Z} {x0 : T0} {x1 : T1} : uc2 k (x0, x1) = k x0 x1 := id rfl
theorem uc3_q {T0 T1 T2 Z : Type} {k : T0 → T1 → T2 → Z} {x0 : T0} {x1 : T1} {x2 : T2} : uc3 k (x0, x1, x2) = k x0 x1 x2 := id rfl
theorem uc4_q {T0 T1 T2 T3 Z : Type} {k : T0 → T1 → T2 → T3 → Z} {x0 : T0} {x1 : T1} {x2 : T2} {x3 : T3} : uc4 k (x0, x1, x2, x3) = k x0 x1 x2 x3 := id rfl
theorem uc5_q {T0 T1 T2 T3 T4 Z : Type} {k : T0 → T1 → T2 → T3 → T4 → Z} {x0 : T0} {x1 : T1} {x2 : T2} {x3 : T3} {x4 : T4} : uc5 k (x0, x1, x2, x3, x4) = k x0 x1 x2 x3 x4 := id rfl
theorem uc6_q {T0 T1 T2 T3 T4 T5 Z : Type} {k : T0 → T1 → T2 → T3 → T4 → T5 → Z} {x0 : T0} {x1 : T1} {x2 : T2} {x3 : T3} {x4 : T4} {x5 : T5} : uc6 k (x0, x1, x2, x3, x4, x5) = k x0 x1 x2 x3 x4 x5 := id rfl
theorem uc8_q {T0 T1 T2 T3 T4 T5 T6 T7 Z : Type} {k : T0 → T1 → T2 → T3 → T4 → T5 → T6 → T7 → Z} {x0 : T0} {x1 : T1} {x2 : T2} {x3 : T3} {x4 : T4} {x5 : T5} {x6 : T6} {x7 : T7} : uc8 k (x0, x1, x2, x3, x4, x5, x6, x7) = k x0 x1 x2 x3 x4 x5 x6 x7 := id rfl
theorem uc14_q {T0 T1 T2 T3 T4 T5 T6 T7 T8 T9 T10 T11 T12 T13 Z : Type} {k : T0 → T1 → T2 → T3 → T4 → T5 → T6 → T7 → T8 → T9 → T10 → T11 → T12 → T13 → Z} {x0 : T0} {x1 : T1} {x2 : T2} {x3 : T3} {x4 : T4} {x5 : T5} {x6 : T6} {x7 : T7} {x8 : T8} {x9 : T9} {x10 : T10} {x11 : T11} {x12 : T12} {x13 : T13} : uc14 k (x0, x1, x2, x3, x4, x5, x6, x7, x8, x9, x10, x11, x12, x13) = k x0 x1 x2 x3 x4 x5 x6 x7 x8 x9 x10 x11 x12 x13 := id rfl
theorem uc22_q {T0 T1 T2 T3 T4 T5 T6 T7 T8 T9 T10 T11 T12 T13 T14 T15 T16 T17 T18 T19 T20 T21 Z : Type} {k : T0 → T1 → T2 → T3 → T4 → T5 → T6 → T7 → T8 → T9 → T10 → T11 → T12 → T13 → T14 → T15 → T16 → T17 → T18 → T19 → T20 → T21 → Z} {x0 : T0} {x1 : T1} {x2 : T2} {x3 : T3} {x4 : T4} {x5 : T5} {x6 : T6} {x7 : T7} {x8 : T8} {x9 : T9} {x10 : T10} {x11 : T11} {x12 : T12} {x13 : T13} {x14 : T14} {x15 : T15} {x16 : T16} {x17 : T17} {x18 : T18} {x19 : T19} {x20 : T20} {x21 : T21} : uc22 k (x0, x1, x2, x3, x4, x5, x6, x7, x8, x9, x10, x11, x12, x13, x14, x15, x16, x17, x18, x19, x20, x21) = k x0 x1 x2 x3 x4 x5 x6 x7 x8 x9 x10 x11 x12 x13 x14 x15 x16 x17 x18 x19 x20 x21 := id rfl
theorem uc23_q {T0 T1 T2 T3 T4 T5 T6 T7 T8 T9 T10 T11 T12 T13 T14 T15 T16 T17 T18 T19 T20 T21 T22 Z : Type} {k : T0 → T1 → T2 → T3 → T4 → T5 → T6 → T7 → T8 → T9 → T10 → T11 → T12 → T13 → T14 → T15 → T16 → T17 → T18 → T19 → T20 → T21 → T22 → Z} {x0 : T0} {x1 : T1} {x2 : T2} {x3 : T3} {x4 : T4} {x5 : T5} {x6 : T6} {x7 : T7} {x8 : T8} {x9 : T9} {x10 : T10} {x11 : T11} {x12 : T12} {x13 : T13} {x14 : T14} {x15 : T15} {x16 : T16} {x17 : T17} {x18 : T18} {x19 : T19} {x20 : T20} {x21 : T21} {x22 : T22} : uc23 k (x0, x1, x2, x3, x4, x5, x6, x7, x8, x9, x10, x11, x12, x13, x14, x15, x16, x17, x18, x19, x20, x21, x22) = k x0 x1 x2 x3 x4 x5 x6 x7 x8 x9 x10 x11 x12 x13 x14 x15 x16 x17 x18 x19 x20 x21 x22 := id rfl
theorem uc44_q {T0 T1 T2 T3 T4 T5 T6 T7 T8 T9 T10 T11 T12 T13 T14 T15 T16 T17 T18 T19 T20 T21 T22 T23 T24 T25 T26 T27 T28 T29 T30 T31 T32 T33 T34 T35 T36 T37 T38 T39 T40 T41 T42 T43 Z : Type} {k : T0 → T1 → T2 → T3 → T4 → T5 → T6 → T7 → T8 → T9 → T10 → T11 → T12 → T13 → T14 → T15 → T16 → T17 → T18 → T19 → T20 → T21 → T22 → T23 → T24 → T25 → T26 → T27 → T28 → T29 → T30 → T31 → T32 → T33 → T34 → T35 → T36 → T37 → T38 → T39 → T40 → T41 → T42 → T43 → Z} {x0 : T0} {x1 : T1} {x2 : T2} {x3 : T3} {x4 : T4} {x5 : T5} {x6 : T6} {x7 : T7} {x8 : T8} {x9 : T9} {x10 : T10} {x11 : T11} {x12 : T12} {x13 : T13} {x14 : T14} {x15 : T15} {x16 : T16} {x17 : T17} {x18 : T18} {x19 : T19} {x20 : T20} {x21 : T21} {x22 : T22} {x23 : T23} {x24 : T24} {x25 : T25} {x26 : T26} {x27 : T27} {x28 : T28} {x29 : T29} {x30 : T30} {x31 : T31} {x32 : T32} {x33 : T33} {x34 : T34} {x35 : T35} {x36 : T36} {x37 : T37} {x38 : T38} {x39 : T39} {x40 : T40} {x41 : T41} {x42 : T42} {x43 : T43} : uc44 k (x0, x1, x2, x3, x4, x5, x6, x7, x8, x9, x10, x11, x12, x13, x14, x15, x16, x17, x18, x19, x20, x21, x22, x23, x24, x25, x26, x27, x28, x29, x30, x31, x32, x33, x34, x35, x36, x37, x38, x39, x40, x41, x42, x43) = k x0 x1 x2 x3 x4 x5 x6 x7 x8 x9 x10 x11 x12 x13 x14 x15 x16 x17 x18 x19 x20 x21 x22 x23 x24 x25 x26 x27 x28 x29 x30 x31 x32 x33 x34 x35 x36 x37 x38 x39 x40 x41 x42 x43 := id rfl
theorem uc45_q {T0 T1 T2 T3 T4 T5 T6 T7 T8 T9 T10 T11 T12 T13 T14 T15 T16 T17 T18 T19 T20 T21 T22 T23 T24 T25 T26 T27 T28 T29 T30 T31 T32 T33 T34 T35 T36 T37 T38 T39 T40 T41 T42 T43 T44 Z : Type} {k : T0 → T1 → T2 → T3 → T4 → T5 → T6 → T7 → T8 → T9 → T10 → T11 → T12 → T13 → T14 → T15 → T16 → T17 → T18 → T19 → T20 → T21 → T22 → T23 → T24 → T25 → T26 → T27 → T28 → T29 → T30 → T31 → T32 → T33 → T34 → T35 → T36 → T37 → T38 → T39 → T40 → T41 → T42 → T43 → T44 → Z} {x0 : T0} {x1 : T1} {x2 : T2} {x3 : T3} {x4 : T4} {x5 : T5} {x6 : T6} {x7 : T7} {x8 : T8} {x9 : T9} {x10 : T10} {x11 : T11} {x12 : T12} {x13 : T13} {x14 : T14} {x15 : T15} {x16 : T16} {x17 : T17} {x18 : T18} {x19 : T19} {x20 : T20} {x21 : T21} {x22 : T22} {x23 : T23} {x24 : T24} {x25 : T25} {x26 : T26} {x27 : T27} {x28 : T28} {x29 : T29} {x30 : T30} {x31 : T31} {x32 : T32} {x33 : T33} {x34 : T34} {x35 : T35} {x36 : T36} {x37 : T37} {x38 : T38} {x39 : T39} {x40 : T40} {x41 : T41} {x42 : T42} {x43 : T43} {x44 : T44} : uc45 k (x0, x1, x2, x3, x4, x5, x6, x7, x8, x9, x10, x11, x12, x13, x14, x15, x16, x17, x18, x19, x20, x21, x22, x23, x24, x25, x26, x27, x28, x29, x30, x31, x32, x33, x34, x35, x36, x37, x38, x39, x40, x41, x42, x43, x44) = k x0 x1 x2 x3 x4 x5 x6 x7 x8 x9 x10 x11 x12 x13 x14 x15 x16 x17 x18 x19 x20 x21 x22 x23 x24 x25 x26 x27 x28 x29 x30 x31 x32 x33 x34 x35 x36 x37 x38 x39 x40 x41 x42 x43 x44 := id rfl
theorem ob_q {α β : Type} {a : α} {k : α → Option β} : ob (some a) k = k a := id rfl
theorem oh_r {α β : Type} {a : α} {f : Nat → Option β} {k : α → Option β} : oh (some (.inr a)) f k = k a := id rfl
theorem oh_l {α β : Type} {e : Nat} {f : Nat → Option β} {k : α → Option β} : oh (some (.inl e)) f k = f e := id rfl
theorem oi_q {α : Type} {a : α} : oi (some a) = (some (.inr a) : Option (Nat ⊕ α)) := id rfl
abbrev TC := Int32 × (Nat → Int32) × (Nat → Int32) × (Nat → Int32) × (Nat → Int32) × (Nat → Int32) × (Nat → Int32) × (Nat → Int32) × Int32 × (Nat → Int32) × (Nat → Int32) × Int32 × (Nat → Int32) × Int32 × (Nat → Int32) × (Nat → Int32) × (Nat → Int32) × (Nat → Int32) × (Nat → Int32) × (Nat → Int32) × (Nat → Int32) × (Nat → Int32) × Int32 × (Nat → Int32) × (Nat → Int32) × Int32 × (Nat → Int32) × Int32 × (Nat → Int32) × Int32 × Bool × Int32 × Int32 × Int32 × Int32 × Int32 × Int32 × Int32 × Int32 × (Nat → Int32) × (Nat → Int32) × (Nat → Int32) × (Nat → Int32) × (Nat → Int32)
abbrev TM := Int32 × Int32 × (Nat → Int32) × Int32 × (Nat → Int64) × Int32 × Int32 × Int32 × (Nat → Int32) × Bool × (Nat → Bool) × (Nat → Int32) × Int32 × Int32 × Int32 × (Nat → Int64) × (Nat → Int32) × (Nat → Int32) × Int32 × Int32 × Int32 × Int32
def LQ2 (hc : Nat → Int32) (next : Int32) (mh ms : Nat → Int64) (bs bf : Nat → Int32) (zc : TC) (zm : TM) : Prop :=
  FI (zc.2.2.2.2.2.2.2.2.2.2.2.2.2.2.2.2.2.2.2.2.2.2.1) (zc.2.2.2.2.2.2.2.2.2.2.2.2.2.2.2.2.2.2.2.2.2.2.2.2.2.2.2.1) (zc.2.2.2.2.2.2.2.2.2.2.2.2.2.2.2.2.2.2.2.2.2.2.2.2.2.1) (zc.2.2.2.2.2.2.2.2.2.2.2.2.2.2.2.2.2.2.1) (zc.2.2.2.2.2.2.2.2.2.2.2.2.2.2.2.2.2.2.2.1) (zc.2.2.2.2.2.2.2.2.2.2.2.2.2.2.2.2.2.2.2.2.2.2.2.1) (zc.2.2.2.2.2.2.2.2.2.2.2.2.2.2.2.2.2.2.2.2.2.1) (zc.2.2.2.2.2.2.2.2.2.2.2.2.2.2.2.2.1) (zc.2.2.2.2.2.2.2.2.2.2.2.2.2.2.2.2.2.2.2.2.2.2.2.2.2.2.1) (zc.2.2.2.2.2.2.2.2.2.2.2.2.2.2.2.2.2.2.2.2.2.2.2.2.2.2.2.2.1) (zc.2.2.2.2.2.2.2.2.2.2.2.2.2.2.2.2.2.1) (zc.2.2.2.2.2.2.2.2.2.2.2.2.2.2.2.1) (zc.2.2.2.2.2.2.2.2.2.2.2.2.2.2.2.2.2.2.2.2.1) (zc.2.2.2.2.2.2.2.2.2.2.2.2.2.2.2.2.2.2.2.2.2.2.2.2.1) (zc.2.2.2.2.2.2.2.2.2.2.2.2.2.2.2.2.2.2.2.2.2.2.2.2.2.2.2.2.2.2.2.2.2.2.2.2.2.2.2.2.1) (zc.2.2.2.2.2.2.2.2.2.2.2.2.2.2.2.2.2.2.2.2.2.2.2.2.2.2.2.2.2.2.2.2.2.2.2.2.2.2.2.2.2.2.1) (zc.2.2.2.2.2.2.2.2.2.2.2.2.2.2.2.2.2.2.2.2.2.2.2.2.2.2.2.2.2.2.2.2.2.2.2.2.2.2.2.2.2.1) (zc.2.2.2.2.2.2.2.2.2.2.2.2.2.2.2.2.2.2.2.2.2.2.2.2.2.2.2.2.2.2.2.2.2.2.2.2.2.2.2.1) (zc.2.2.2.2.2.2.2.2.2.2.2.2.2.2.2.2.2.2.2.2.2.2.2.2.2.2.2.2.2.2.2.2.2.2.2.2.2.2.2.2.2.2.2) (zm.2.2.2.2.2.2.2.2.2.2.2.2.2.2.2.1) hc next (zc.2.2.2.2.2.2.2.2.2.2.2.2.2.2.2.2.2.2.2.2.2.2.2.2.2.2.2.2.2.1) mh (zm.2.2.2.2.2.2.2.2.2.2.2.2.2.2.2.2.2.2.2.2.2) (zc.2.2.2.2.2.2.2.2.2.2.2.2.2.2.2.2.2.2.2.2.2.2.2.2.2.2.2.2.2.2.1) ms (zm.2.2.2.2.2.2.2.2.2.1) ∧ BI (zc.2.2.2.2.2.2.2.2.2.2.2.2.2.2.2.2.2.2.2.2.2.2.2.2.2.2.2.2.2.2.2.2.2.1) (zm.2.2.2.1) bs bf ∧ (zc.2.2.2.2.2.2.2.2.2.2.2.2.2.2.2.2.2.2.2.2.2.2.2.2.2.2.2.2.2.2.2.2.1) = (zm.2.2.2.2.2.2.2.1)
theorem load_both (I : FI pc uc rc lA letters py pu fp sp uY ge am lv rf od rs po fb sb fam hc next held mh uH kept ms has) (HB : BI filled bl bs bf) (x : Int32) :
    (p9_load filled kind start val pc uc rc held kept dam dfp dge dlA dle dlv dpu dpy drf dsp duY am fp ge lA letters lv pu py rf sp uY bs fb od po rs sb x = some (.inl 2) ∧ p10_load uH has R bl limit nxt beg tok err errAt errPos nested bA bf draft gM it lM fam ro rS x = some (0, beg, bA, bl, draft, err, errAt, errPos, gM, has, it, lM, limit, nested, nxt, fam, ro, rS, R, 1, tok, uH)) ∨
    ∃ zc zm, p9_load filled kind start val pc uc rc held kept dam dfp dge dlA dle dlv dpu dpy drf dsp duY am fp ge lA letters lv pu py rf sp uY bs fb od po rs sb x = some (.inr zc) ∧ p10_load uH has R bl limit nxt beg tok err errAt errPos nested bA bf draft gM it lM fam ro rS x = some zm ∧ zc.1 = zm.1 ∧ (zm.2.2.2.2.2.2.2.2.2.2.2.2.2.2.2.2.2.2.2.1) = 0 ∧ LQ2 hc next mh ms bs bf zc zm := by
  obtain ⟨B, f, rfl, rfl, HBf⟩ := HB
  have hf := HBf.1
  have hr : p10_inRange x.toInt64 (0 : Int64) (nI f).toInt64 = _ := inR x 0 (nI f)
  by_cases c1 : x < 0
  · left
    constructor
    · unfold p9_load
      rw [if_pos c1]
    · unfold p10_load
      rw [hr, if_pos c1]
      rfl
  by_cases c2 : x ≤ nI f
  case neg =>
    left
    constructor
    · unfold p9_load
      rw [if_neg c1, if_neg c2]
    · unfold p10_load
      rw [hr, if_neg c1, if_neg c2]
      rfl
  right
  obtain ⟨L, hL, rfl⟩ := nI_of2 (M := nI f) (n := f) (nI_toInt (by omega)) c1 c2
  have H := HBf.mono hL
  obtain ⟨z, e0, hz⟩ := M_zero (draft := draft)
  obtain ⟨am1, fp1, ge1, lA1, le1, lv1, pu1, pc1, py1, rf1, rc1, sp1, uc1, uY1, code1, errS1, kind1, start1, stop1, value1, b0, nn0, t0, begins1, fam1, error1, errorAt1, next1, token1, q1, q2, q3, LO⟩ := read_ok (dam := dam) (dfp := dfp) (dge := dge) (dlA := dlA) (dle := dle) (dlv := dlv) (dpu := dpu) (dpy := dpy) (drf := drf) (dsp := dsp) (duY := duY) H hz kind start val errAt
  have hBI : BI (0 : Int32) (0 : Int32) bs bf := ⟨B, 0, rfl, rfl, HBf.mono (Nat.zero_le _)⟩
  rcases LO with ⟨rfl, rfl, rfl, D⟩ | ⟨c, h5, h0, rfl, rfl, rfl⟩
  · obtain ⟨n', lc', lt', yr', -, -, -, -, ⟨h, xx, hh, hx, -, -, hnx, -⟩, -⟩ := I
    obtain ⟨n, u, pr, a, b, g, an, lc, lt, yr, uy, am2, fp2, ge2, lA2, le2, lv2, pu2, py2, rf2, sp2, uY2, rfl, rfl, x1, W, AN, hC, hX, F, hY, RF2, FM, PMf, hUy⟩ := copy_ok (am := am) (fp := fp) (ge := ge) (lA := lA) (letters := letters) (lv := lv) (pu := pu) (py := py) (rf := rf) (sp := sp) (uY := uY) D
    have hn := W.n16
    have hu := W.u12
    obtain ⟨fb2, od2, po2, rs2, sb2, x2, RX2⟩ := X7_layPlain (fb := fb) (od := od) (po := po) (rs := rs) (sb := sb) W F RF2
    obtain ⟨bA2, dr2, gM2, it2, lM2, ro2, rS2, x3, L3, P3, k3⟩ := M_makePlain (bA := bA) (ge := gM) (it := it) (lv := lM) (ro := ro) (rs := rS) W FM
    obtain ⟨now2, x4, h4, -⟩ := M_copy (N := 130) (M := 130) (i := 0) (j := 0) (f := dr2) (t := fam) (by omega) (by omega) (by omega) (by omega)
    have h4' : ∀ k, k < 130 → now2 k = dr2 k := fun k hk => by
      have := h4 k hk
      rw [Nat.mul_zero, Nat.zero_add] at this
      exact this
    have FM2 : MX n u pr a b now2 := FM.keep hn hu fun k hk => by rw [h4' k (by omega), k3 k hk]
    have hFI : FI (nI n) (nI u) (nI (rowsN g n)) lA2 le2 py2 pu2 fp2 sp2 uY2 ge2 am2 lv2 rf2 od2 rs2 po2 fb2 sb2 now2 hc next 0 mh 0 false ms false :=
      ⟨n, lc, lt, yr, rfl, hC, hX, ⟨u, pr, a, b, g, an, uy, ppl n u a b g, pbx n u a b g, rfl, rfl, ⟨W, AN, LAY.plain⟩, ⟨F, hY, RF2, RX2⟩, ⟨FM2, fun x hx ht => by rw [h4' _ (by omega)]; exact P3 x hx ht, fun w hw => by rw [h4' _ (by omega), k3 _ (by omega)]; exact hUy w hw⟩, PMf.congr hn fun k hk => by rw [h4' k (by omega), k3 k (by omega)]⟩, ⟨0, xx, by omega, hx, rfl, rfl, hnx, fun i hi => absurd hi (Nat.not_lt_zero _)⟩, rfl, fun q => Bool.noConfusion q⟩
    refine ⟨(nI n, am1, fp1, ge1, lA1, le1, lv1, pu1, nI n, py1, rf1, rc1, sp1, nI u, uY1, am2, fp2, ge2, lA2, le2, lv2, pu2, nI n, py2, rf2, nI (rowsN g n), sp2, nI u, uY2, 0, false, 0, -1, 0, kind1, nI L, start1, stop1, value1, fb2, od2, po2, rs2, sb2), (nI n, begins1, bA2, 0, dr2, 0, errorAt1, -1, gM2, false, it2, lM2, nI L, 0, next1, now2, ro2, rS2, nI (rowsN g n), 0, token1, 0), ?_, ?_, rfl, rfl, hFI, hBI, rfl⟩
    · unfold p9_load
      rw [if_neg c1, if_pos c2, q1, ob_q, uc23_q, if_pos rfl, x1, ob_q, uc14_q, x2, ob_q, uc5_q, lb_eq]
      unfold p2_forgetAll
      rw [uc2_q, oi_q]
    · unfold p10_load
      rw [hr, if_neg c1, if_pos c2, cond_true, e0, ob_q]
      unfold p10_load_J47
      rw [q2, ob_q, uc6_q, q3, ob_q, uc6_q]
      unfold p10_load_J81 p10_finish
      rw [if_pos rfl, lb_eq, uc3_q, if_pos rfl]
      unfold p10_load_J94
      rw [cond_true, x3, ob_q, uc8_q]
      unfold p10_load_J102
      rw [cond_true, show p10_copy 130 130 dr2 fam 0 0 = _ from x4, ob_q, M_persons FM2, ob_q]
  · have hcc := nIc h5 h0
    refine ⟨(-10 - nI c, am1, fp1, ge1, lA1, le1, lv1, pu1, pc1, py1, rf1, rc1, sp1, uc1, uY1, am, fp, ge, lA, letters, lv, pu, pc, py, rf, rc, sp, uc, uY, held, kept, nI c, errorAt1, 0, kind1, nI L, start1, stop1, value1, fb, od, po, rs, sb), (-10 - nI c, begins1, bA, 0, fam1, nI c, errorAt1, errorAt1, gM, has, it, lM, nI L, 0, next1, fam, ro, rS, R, 0, token1, uH), ?_, ?_, rfl, rfl, I, hBI, rfl⟩
    · unfold p9_load
      rw [if_neg c1, if_pos c2, q1, ob_q, uc23_q, if_neg hcc, oi_q]
    · unfold p10_load
      rw [hr, if_neg c1, if_pos c2, cond_true, e0, ob_q]
      unfold p10_load_J47
      rw [q2, ob_q, uc6_q, q3, ob_q, uc6_q]
      unfold p10_load_J81 p10_finish
      rw [if_neg hcc, lb_eq, uc3_q, if_neg hcc]
      unfold p10_load_J94 p10_load_J102
      rw [cond_false, cond_false]
end LOADX
