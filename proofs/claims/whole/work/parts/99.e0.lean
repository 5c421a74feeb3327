/-! query in the law -/
theorem uc12_v {T0 T1 T2 T3 T4 T5 T6 T7 T8 T9 T10 T11 Z : Type} {k : T0 → T1 → T2 → T3 → T4 → T5 → T6 → T7 → T8 → T9 → T10 → T11 → Z} {z : T0 × T1 × T2 × T3 × T4 × T5 × T6 × T7 × T8 × T9 × T10 × T11} : uc12 k z = k z.1 z.2.1 z.2.2.1 z.2.2.2.1 z.2.2.2.2.1 z.2.2.2.2.2.1 z.2.2.2.2.2.2.1 z.2.2.2.2.2.2.2.1 z.2.2.2.2.2.2.2.2.1 z.2.2.2.2.2.2.2.2.2.1 z.2.2.2.2.2.2.2.2.2.2.1 z.2.2.2.2.2.2.2.2.2.2.2 := id rfl
theorem uc17_v {T0 T1 T2 T3 T4 T5 T6 T7 T8 T9 T10 T11 T12 T13 T14 T15 T16 Z : Type} {k : T0 → T1 → T2 → T3 → T4 → T5 → T6 → T7 → T8 → T9 → T10 → T11 → T12 → T13 → T14 → T15 → T16 → Z} {z : T0 × T1 × T2 × T3 × T4 × T5 × T6 × T7 × T8 × T9 × T10 × T11 × T12 × T13 × T14 × T15 × T16} : uc17 k z = k z.1 z.2.1 z.2.2.1 z.2.2.2.1 z.2.2.2.2.1 z.2.2.2.2.2.1 z.2.2.2.2.2.2.1 z.2.2.2.2.2.2.2.1 z.2.2.2.2.2.2.2.2.1 z.2.2.2.2.2.2.2.2.2.1 z.2.2.2.2.2.2.2.2.2.2.1 z.2.2.2.2.2.2.2.2.2.2.2.1 z.2.2.2.2.2.2.2.2.2.2.2.2.1 z.2.2.2.2.2.2.2.2.2.2.2.2.2.1 z.2.2.2.2.2.2.2.2.2.2.2.2.2.2.1 z.2.2.2.2.2.2.2.2.2.2.2.2.2.2.2.1 z.2.2.2.2.2.2.2.2.2.2.2.2.2.2.2.2 := id rfl
theorem uc13_q {T0 T1 T2 T3 T4 T5 T6 T7 T8 T9 T10 T11 T12 Z : Type} {k : T0 → T1 → T2 → T3 → T4 → T5 → T6 → T7 → T8 → T9 → T10 → T11 → T12 → Z} {x0 : T0} {x1 : T1} {x2 : T2} {x3 : T3} {x4 : T4} {x5 : T5} {x6 : T6} {x7 : T7} {x8 : T8} {x9 : T9} {x10 : T10} {x11 : T11} {x12 : T12} : uc13 k (x0, x1, x2, x3, x4, x5, x6, x7, x8, x9, x10, x11, x12) = k x0 x1 x2 x3 x4 x5 x6 x7 x8 x9 x10 x11 x12 := id rfl
abbrev T38 := Int32 × Int32 × Int32 × Int32 × Int32 × Int32 × Int32 × Int32 × Int32 × Int32 × Int32 × (Nat → Int32) × Int32 × Int32 × Int32 × (Nat → Int32) × (Nat → Int32) × Int32 × Int32 × Int32 × Int32 × (Nat → Int64) × Int32 × Int32 × (Nat → Int64) × (Nat → Int32) × (Nat → Int32) × (Nat → Int32)
def LQ38 (bs bf : Nat → Int32) (z : T38) : Prop := BI (z.2.2.1) (z.2.2.2.2.2.2.2.2.2.1) bs bf ∧ z.2.1 = z.2.2.2.2.2.2.2.2.2.2.2.2.2.2.1
section QTOP
variable {B : Nat → Nat} {L : Nat} {bs bf : Nat → Int32} {n u : Nat} {pr a b g : Nat → Nat} {an : Nat → Nat → Bool} {yr : Nat → Int32} {lc : Nat → Nat} {lt : Nat → Nat → Nat} {ge q cd gM lM : Nat → Int32} {fam st : Nat → Int64} {s e k c' : Nat} {value code errS errorAt r R : Int32} {lv rv : Nat → Int32}
theorem J46_err (H : BUF B L bs bf) (P : PT B L s e k) (hn : n ≤ 16) (hc : ¬ code = 0) (v2 v2' : Bool) (value errS nested cc : Int32) (lv q rv : Nat → Int32) :
    ∃ zc zm, p5_read_J46 (nI n) bs lv rv v2 0 (nI L) (nI k) (nI s) (nI e) value code errS q = some zc ∧ p10_query_J73 bf cd fam gM lM R st v2' 0 (nI L) (nI e) (nI s) (nI k) code errS nested cc = some zm ∧ QZ zc zm := by
  obtain ⟨r, lv', rv', e1⟩ := readTest_err (q := q) H P hn hc value errS lv rv
  unfold p5_read_J46 p10_query_J73
  rw [X_advE hc, M_advE hc]
  simp only [ob, uc4, uc3]
  rw [e1, compTest_err H P hc]
  simp only [ob, uc9, uc8]
  rw [if_neg hc, checkE hc, failE hc]
  simp only [lb_eq, uc2]
  rw [J77_err hc, J105_err hc, ite_self]
  exact ⟨_, _, rfl, rfl, rfl, rfl, rfl, rfl, rfl⟩
theorem J46_fine (H : BUF B L bs bf) (hL : L ≤ 200) (C : QCX n u pr a b g an yr lc lt fam ge q) {lM' : Nat → Int32} {R' : Int32} (hG : p10_layGenerations fam gM lM = some (ge, lM', R')) (P : PT B L s e k) (V : VAL B s e k value) (many : Bool) (errorAt : Int32) (cd lv rv : Nat → Int32) :
    ∃ zc zm, p5_read_J46 (nI n) bs lv rv many 0 (nI L) (nI k) (nI s) (nI e) value 0 (-1) q = some zc ∧ p10_query_J73 bf cd fam gM lM R st (!many) 0 (nI L) (nI e) (nI s) (nI k) 0 errorAt 0 0 = some zm ∧ QZ zc zm := by
  have hn := C.1.n16
  have h10 : ¬ (1 : Int32) = 0 := by decide
  obtain ⟨s2, e2, k2, v', a1, a2, P2, V2, l2⟩ := adv_fine2 H P (nI k) (nI s) value (nI s) (nI k)
  obtain ⟨X, Y, b1, b2, Q⟩ := test_ok H hL (factor_ok H hL C 64 0 (by omega) (by omega)) s2 e2 k2 0 v' errorAt lv rv cd P2 V2 (Nat.zero_le _)
  have b1' : p5_readTest (p5_readFactor 64) (nI L) (nI k2) (nI s2) (nI e2) v' 0 (-1) (nI n) bs lv q rv 0 = some X := b1
  have b2' : p10_compileTest (p10_compileFactor 64) (nI L) (nI e2) (nI s2) (nI k2) 0 errorAt 0 0 bf cd = some Y := b2
  unfold p5_read_J46 p10_query_J73
  rw [a1, a2]
  simp only [ob, uc4, uc3]
  rw [b1', b2']
  rcases Q.cases with ⟨r3, s3, e3, k3, c3, value3, lv3, rv3, cd3, errorAt3, rfl, rfl, P3, V3, l3, ha3, E3⟩ | ⟨r3, s3, e3, k3, cc3, cd3, ce3, value3, lv3, rv3, errorAt3, ne3, rfl, rfl, P3, h53, h03⟩
  · simp only [ob, uc9, uc8]
    have hs3 : s3 ≤ e3 := P3.1
    have he3 : e3 ≤ L := P3.2.1
    by_cases hk : nI k3 = 0
    · rw [if_pos trivial, if_pos hk, if_pos hk, checkT]
      simp only [lb_eq, uc2]
      exact end_fine (M_persons C.2.2.1) hn hG E3 (by omega) many _ _ _ _ _ _ _ _ _ _ _ _ _ _
    · rw [if_pos trivial, if_neg hk, if_neg hk, fail0, checkF0]
      simp only [lb_eq, uc2]
      rw [J77_err h10, J105_err h10]
      exact ⟨_, _, rfl, rfl, rfl, rfl, rfl, rfl, rfl⟩
  · simp only [ob, uc9, uc8]
    have hcc := nIc h53 h03
    rw [if_neg hcc, checkE hcc, failE hcc]
    simp only [lb_eq, uc2]
    rw [J77_err hcc, J105_err hcc, ite_self]
    exact ⟨_, _, rfl, rfl, rfl, rfl, rfl, rfl, rfl⟩
theorem word_len {kind start stop : Int32} {w : Nat} (h : p3_isWord kind start stop bs w = some true) : Int32.ofNat (txl w) = stop - start := by
  unfold p3_isWord at h
  by_cases c1 : kind = 1
  · rw [if_pos c1] at h
    by_cases c2 : Int32.ofNat (txl w) = stop - start
    · exact c2
    · rw [if_neg c2] at h
      exact Bool.noConfusion (Option.some.inj h)
  · rw [if_neg c1] at h
    exact Bool.noConfusion (Option.some.inj h)
theorem query_ok {py pu fp sp geX am lvX rf : Nat → Int32} (H : BUF B L bs bf) (hL : L ≤ 200) (W : WF n u pr a b g) (AN : ANC n pr a b an) (F : FX n u pr a b pu fp sp) (Q : RF n u a b g an geX am lvX rf) (hy : ∀ p, p < n → py p = yr p) (FM : MX n u pr a b fam) (PMf : PM n lc lt yr fam) (kind start val bl err errAt errPos limit nxt beg tok nested cc : Int32) :
    ∃ zc zm, p5_read kind start val (nI n) (nI u) am fp geX pu py sp bs lv q rv (nI L) = some zc ∧ (p10_inRange (nI L).toInt64 (0 : Int64) ((imin bl (200)).toInt64) = true → p10_query R bl limit nxt beg tok err errAt errPos nested cc bf cd fam gM lM st (nI L) = some zm) ∧ QZ zc zm := by
  have hn := W.n16
  have h10 : ¬ (1 : Int32) = 0 := by decide
  obtain ⟨q', c1, hq⟩ := X5_props (q := q) W AN F Q hy
  obtain ⟨ge', lM', d1, hg, -⟩ := M_layGen (ge := gM) (lv := lM) W FM
  have C : QCX n u pr a b g an yr lc lt fam ge' q' := ⟨W, AN, FM, hg, PMf, hq⟩
  obtain ⟨v, e2, V⟩ := X3_advance H (Nat.zero_le _) kind start val
  obtain ⟨P, -⟩ := tok_PT (B := B) (L := L) (Nat.zero_le _)
  have e2' : p3_advance (nI L) kind start 0 val 0 bs = some (nI (tK B L 0), nI (tS B L 0), nI (tE B L 0), v) := e2
  have m2 : p10_scan (nI L) 0 bf = some (nI (tS B L 0), nI (tE B L 0), nI (tK B L 0)) := M_scan H (Nat.zero_le _)
  obtain ⟨r2, w2, y2, -⟩ := isWord_ok H P 2
  obtain ⟨r3, w3, y3, -⟩ := isWord_ok H P 3
  have hx : r2 = true → r3 = true → False := by
    intro h2 h3
    subst h2
    subst h3
    have := (word_len w2).trans (word_len w3).symm
    exact absurd this (by decide)
  have hM : ∀ zm, (cond r3 (p10_query_J73 bf cd fam gM lM R st r3 0 (nI L) (nI (tE B L 0)) (nI (tS B L 0)) (nI (tK B L 0)) 0 errAt 0 0) (cond r2 (p10_query_J73 bf cd fam gM lM R st r3 0 (nI L) (nI (tE B L 0)) (nI (tS B L 0)) (nI (tK B L 0)) 0 errAt 0 0) (p10_query_J73 bf cd fam gM lM R st r3 0 (nI L) (nI (tE B L 0)) (nI (tS B L 0)) (nI (tK B L 0)) 1 (nI (tS B L 0)) 0 0))) = some zm → p10_inRange (nI L).toInt64 (0 : Int64) ((imin bl (200)).toInt64) = true → p10_query R bl limit nxt beg tok err errAt errPos nested cc bf cd fam gM lM st (nI L) = some zm := by
    intro zm hz hr
    unfold p10_query p10_startText
    rw [hr, cond_true, m2]
    simp only [ob, uc3, uc6]
    rw [y3]
    simp only [ob]
    rw [y2]
    simp only [ob]
    rw [checkT, checkF0]
    simp only [lb_eq, uc2]
    exact hz
  have hC : ∀ zc, (cond r2 (p5_read_J46 (nI n) bs lv rv r2 0 (nI L) (nI (tK B L 0)) (nI (tS B L 0)) (nI (tE B L 0)) v 0 (-1) q') (cond r3 (p5_read_J46 (nI n) bs lv rv r2 0 (nI L) (nI (tK B L 0)) (nI (tS B L 0)) (nI (tE B L 0)) v 0 (-1) q') (p5_read_J46 (nI n) bs lv rv r2 0 (nI L) (nI (tK B L 0)) (nI (tS B L 0)) (nI (tE B L 0)) v 1 (nI (tS B L 0)) q'))) = some zc → p5_read kind start val (nI n) (nI u) am fp geX pu py sp bs lv q rv (nI L) = some zc := by
    intro zc hz
    unfold p5_read p3_open
    rw [c1]
    simp only [ob]
    rw [e2']
    simp only [ob, uc4, uc8]
    rw [w2]
    simp only [ob]
    rw [w3]
    simp only [ob]
    rw [fail0]
    simp only [lb_eq, uc2]
    exact hz
  cases r2 with
  | true =>
    cases r3 with
    | true => exact (hx rfl rfl).elim
    | false =>
      obtain ⟨zc, zm, f1, f2, f3⟩ := J46_fine (R := R) (st := st) H hL C d1 P V true errAt cd lv rv
      exact ⟨zc, zm, hC zc f1, hM zm f2, f3⟩
  | false =>
    cases r3 with
    | true =>
      obtain ⟨zc, zm, f1, f2, f3⟩ := J46_fine (R := R) (st := st) H hL C d1 P V false errAt cd lv rv
      exact ⟨zc, zm, hC zc f1, hM zm f2, f3⟩
    | false =>
      obtain ⟨zc, zm, f1, f2, f3⟩ := J46_err (cd := cd) (fam := fam) (gM := gM) (lM := lM) (R := R) (st := st) H P hn h10 false false v (nI (tS B L 0)) 0 0 lv q' rv
      exact ⟨zc, zm, hC zc f1, hM zm f2, f3⟩
theorem R38 {nL : Nat} {xs : Nat → Int32} {v4 pc uc rc next held uH len kind start stop val filled bl err errAt errPos limit nxt beg tok nested cc : Int32} {mh ms o : Nat → Int64} {hc lA letters py pu fp sp uY geX am lvX rf od rs po fb sb : Nat → Int32} {kept has : Bool} (G : GDV nL v4) (I : FI pc uc rc lA letters py pu fp sp uY geX am lvX rf od rs po fb sb fam hc next held mh uH kept ms has) (HB : BI filled bl bs bf) (HE : errS = errPos) :
    ∃ z, pL_38 nL xs v4 filled len kind start stop val code errS pc uc bs py pu fp sp geX am lv rv q R bl limit nxt beg tok err errAt errPos nested cc fam gM lM bf cd st o = some z ∧ LQ38 bs bf z := by
  obtain ⟨n, lc, lt, yr, rfl, hC, hX, ⟨u, pr, a, b, g, an, uy, pl, bx, rfl, rfl, U, X, V, PMf⟩, -⟩ := I
  obtain ⟨B, f, rfl, rfl, HBf⟩ := HB
  have hf := HBf.1
  unfold pL_38 pL_query
  rw [gd1 G]
  generalize xs (v4 + 1).toNatClampNeg = x
  have h200 : imin (nI f) 200 = nI (min f 200) := imin_nI (b := 200) (by omega) (by omega)
  have hr : p10_inRange x.toInt64 (0 : Int64) ((imin (nI f) 200).toInt64) = _ := inR x 0 (imin (nI f) 200)
  have hbad : p9_query (nI f) kind start val (nI n) (nI u) am fp geX pu py sp bs lv q rv x = some (.inl 2) → p10_inRange x.toInt64 (0 : Int64) ((imin (nI f) 200).toInt64) = false → ∃ z, ob (oh (p9_query (nI f) kind start val (nI n) (nI u) am fp geX pu py sp bs lv q rv x) (fun e9 => (if e9 = 2 then some ((1 : Int32), code, errS, nI f, kind, len, start, stop, val, o, lv, q, rv) else none)) (uc12 fun r4 a1 a2 a3 a4 a5 a6 a7 a8 a9 b1 b2 => gd (0 : Int32) 1 (lb (vp_updL o (0 : Int32).toNatClampNeg r4.toInt64) (fun g8 => some (0, a1, a2, a3, a4, a5, a6, a7, a8, g8, a9, b1, b2))))) (uc13 fun r2127 i_errorCode_2127 i_errorStart_2127 i_filled_2127 i_kind_2127 i_length_2127 i_start_2127 i_stop_2127 i_value_2127 o_2127 q_leftValues_2127 q_properties_2127 q_rightValues_2127 => gd (v4 + 1) nL (ob (p10_query R (nI f) limit nxt beg tok err errAt errPos nested cc bf cd fam gM lM st x) (uc17 fun r2139 m_beginsAt_2139 m_bufferLength_2139 m_codeCount_2139 m_codes_2139 m_error_2139 m_errorAt_2139 m_errorPosition_2139 m_generation_2139 m_level_2139 m_limit_2139 m_nested_2139 m_next_2139 m_rows_2139 m_stack_2139 m_thrown_2139 m_token_2139 => (if (p10_thrown m_thrown_2139) = r2127 then (if r2127 = 0 then gd 0 1 ((if (o_2127 (0 : Int32).toNatClampNeg) = r2139.toInt64 then some (i_errorCode_2127, i_errorStart_2127, i_filled_2127, i_kind_2127, i_length_2127, i_start_2127, i_stop_2127, i_value_2127, m_beginsAt_2139, m_bufferLength_2139, m_codeCount_2139, m_codes_2139, m_error_2139, m_errorAt_2139, m_errorPosition_2139, m_generation_2139, m_level_2139, m_limit_2139, m_nested_2139, m_next_2139, m_rows_2139, m_stack_2139, m_thrown_2139, m_token_2139, o_2127, q_leftValues_2127, q_properties_2127, q_rightValues_2127) else none)) else some (i_errorCode_2127, i_errorStart_2127, i_filled_2127, i_kind_2127, i_length_2127, i_start_2127, i_stop_2127, i_value_2127, m_beginsAt_2139, m_bufferLength_2139, m_codeCount_2139, m_codes_2139, m_error_2139, m_errorAt_2139, m_errorPosition_2139, m_generation_2139, m_level_2139, m_limit_2139, m_nested_2139, m_next_2139, m_rows_2139, m_stack_2139, m_thrown_2139, m_token_2139, o_2127, q_leftValues_2127, q_properties_2127, q_rightValues_2127)) else none)))) = some z ∧ LQ38 bs bf z := by
    intro h1 h2
    have h3 : p10_query R (nI f) limit nxt beg tok err errAt errPos nested cc bf cd fam gM lM st x = some (0, beg, nI f, cc, cd, err, errAt, errPos, gM, lM, limit, nested, nxt, R, st, 1, tok) := by
      unfold p10_query p10_raise
      rw [h2, cond_false]
      rfl
    rw [h1, oh_l, if_pos rfl, ob_q, uc13_q, gd1 G, h3, ob_q]
    unfold p10_thrown
    exact ⟨_, rfl, ⟨B, f, rfl, rfl, HBf⟩, HE⟩
  by_cases c1 : x < 0
  · exact hbad (by unfold p9_query; rw [if_pos c1]) (by rw [hr, if_pos c1])
  by_cases c2 : 200 < x
  · refine hbad (by unfold p9_query; rw [if_neg c1, if_pos c2]) ?_
    rw [hr, if_neg c1, if_neg]
    intro z
    rw [h200, Int32.le_iff_toInt_le, nI_toInt (by omega)] at z
    rw [Int32.lt_iff_toInt_lt, show (200 : Int32).toInt = 200 from rfl] at c2
    omega
  by_cases c3 : x ≤ nI f
  case neg =>
    refine hbad (by unfold p9_query; rw [if_neg c1, if_neg c2, if_neg c3]) ?_
    rw [hr, if_neg c1, if_neg]
    intro z
    rw [h200, Int32.le_iff_toInt_le, nI_toInt (by omega)] at z
    rw [Int32.le_iff_toInt_le, nI_toInt (by omega)] at c3
    omega
  obtain ⟨L, hL, rfl⟩ := nI_of2 (M := nI f) (n := f) (nI_toInt (by omega)) c1 c3
  have hL2 : L ≤ 200 := by
    rw [Int32.lt_iff_toInt_lt, nI_toInt (by omega), show (200 : Int32).toInt = 200 from rfl] at c2
    omega
  have H := HBf.mono hL
  have hr2 : p10_inRange (nI L).toInt64 (0 : Int64) ((imin (nI f) 200).toInt64) = true := by
    rw [hr, if_neg c1, if_pos]
    rw [h200]
    exact nI_le (by omega) (by omega)
  obtain ⟨zc, zm, k1, k2, k3, k4, k5, k6, k7⟩ := query_ok (lv := lv) (rv := rv) (q := q) (cd := cd) (gM := gM) (lM := lM) (R := R) (st := st) H hL2 U.1 U.2.1 X.1 X.2.2.1 hX.2.2 V.1 PMf kind start val (nI f) err errAt errPos limit nxt beg tok nested cc
  have hp9 : p9_query (nI f) kind start val (nI n) (nI u) am fp geX pu py sp bs lv q rv (nI L) = some (.inr zc) := by
    unfold p9_query
    rw [if_neg c1, if_neg c2, if_pos c3, k1, ob_q, uc12_v, oi_q]
  rw [hp9, oh_r, uc12_v, gd01, lb_eq, ob_q, uc13_q, gd1 G, k2 hr2, ob_q, uc17_v, k7]
  unfold p10_thrown
  rw [if_pos rfl, if_pos rfl, gd01, updL_eq', ← k3, if_pos rfl]
  have hBI : BI (0 : Int32) (0 : Int32) bs bf := ⟨B, 0, rfl, rfl, HBf.mono (Nat.zero_le _)⟩
  refine ⟨_, rfl, ?_, k4⟩
  show BI zc.2.2.2.1 zm.2.2.1 bs bf
  rw [k5, k6]
  exact hBI
end QTOP
