/-! queries: not, and, or; a comparison -/
section QCOMB
variable {n : Nat} {ge cd : Nat → Int32} {fam : Nat → Int64} {c c' c1 c2 : Nat} {r r1 r2 x : Int32}
theorem bt_every (hn : n ≤ 16) (q : Nat) : bt (p5_everybody (nI n)) q = decide (q < n) := by
  by_cases hq : q < 32
  · have h : ∀ n, n < 17 → ∀ q, q < 32 → bt (p5_everybody (nI n)) q = decide (q < n) := by decide +kernel
    exact h n (by omega) q hq
  · rw [bt_big (by omega), decide_eq_false (by omega)]
theorem EXPR.not (hn : n ≤ 16) (E : EXPR n fam ge c c' cd r) (hc : cd c' = -23) : EXPR n fam ge c (c' + 1) cd (p5_everybody (nI n) &&& (r ^^^ -1)) := by
  have hlt := E.1
  refine ⟨by omega, fun q hq => by rw [bt_and, bt_every hn, decide_eq_false (by omega), Bool.false_and], fun p hp cf cN hcf h1 h2 h st t hh => ?_⟩
  obtain ⟨st1, e1, v1, k1⟩ := E.2.2 p hp cf cN (fun i i1 i2 => hcf i i1 (by omega)) (by omega) h2 h st (t + 1) hh
  refine ⟨vp_updL st1 h (1 - st1 h), ?_, ?_, fun i hi => by rw [updL_ne (by omega), k1 i hi]⟩
  · rw [show t + (c' + 1 - c) = t + 1 + (c' - c) by omega, e1, ev_not (by omega) h2 (by rw [hcf c' (by omega) (by omega), hc]) (by omega)]
  · rw [updL_eq, v1, bt_and, bt_every hn, decide_eq_true hp, Bool.true_and, bt_xor, bt_m1 (by omega)]
    cases bt r p <;> rfl
theorem EXPR.bin (E1 : EXPR n fam ge c c1 cd r1) (E2 : EXPR n fam ge c1 c2 cd r2) (ho : (x = -24 ∧ r = (r1 &&& r2)) ∨ (x = -25 ∧ r = (r1 ||| r2))) (hc : cd c2 = x) : EXPR n fam ge c (c2 + 1) cd r := by
  have l1 := E1.1
  have l2 := E2.1
  have hx : ¬ x = -23 ∧ x ≤ -20 := by rcases ho with ⟨rfl, -⟩ | ⟨rfl, -⟩ <;> decide
  refine ⟨by omega, fun q hq => ?_, fun p hp cf cN hcf h1 h2 h st t hh => ?_⟩
  · rcases ho with ⟨-, rfl⟩ | ⟨-, rfl⟩
    · rw [bt_and, E1.2.1 q hq, Bool.false_and]
    · rw [bt_or, E1.2.1 q hq, E2.2.1 q hq]; rfl
  · obtain ⟨st1, e1, v1, k1⟩ := E1.2.2 p hp cf cN (fun i i1 i2 => hcf i i1 (by omega)) (by omega) h2 h st (t + 1 + (c2 - c1)) hh
    obtain ⟨st2, e2, v2, k2⟩ := E2.2.2 p hp cf cN (fun i i1 i2 => hcf i (by omega) (by omega)) (by omega) h2 (h + 1) st1 (t + 1) (by omega)
    refine ⟨vp_updL st2 h (p10_operate x (st2 h) (st2 (h + 1))), ?_, ?_, fun i hi => by rw [updL_ne (by omega), k2 i (by omega), k1 i hi]⟩
    · rw [show t + (c2 + 1 - c) = t + 1 + (c2 - c1) + (c1 - c) by omega, e1, e2, show nI (h + 1 + 1) = nI (h + 2) from rfl, ev_op (by omega) h2 (by rw [hcf c2 (by omega) (by omega), hc]) hx.1 hx.2 (by omega)]
    · rw [updL_eq, k2 h (by omega), v1, v2]
      rcases ho with ⟨rfl, rfl⟩ | ⟨rfl, rfl⟩
      · rw [bt_and]
        cases bt r1 p <;> cases bt r2 p <;> rfl
      · rw [bt_or]
        cases bt r1 p <;> cases bt r2 p <;> rfl
end QCOMB
abbrev QX := Int32 × Int32 × Int32 × Int32 × Int32 × Int32 × Int32 × (Nat → Int32) × (Nat → Int32)
abbrev QY := Int32 × Int32 × (Nat → Int32) × Int32 × Int32 × Int32 × Int32 × Int32
def QR (B : Nat → Nat) (L n : Nat) (fam : Nat → Int64) (ge : Nat → Int32) (s c : Nat) (cd : Nat → Int32) (nest : Int32) (X : QX) (Y : QY) : Prop :=
  ∃ c', SIMQ B L (c' + (s - c)) X.2.2.2.1 X.2.2.2.2.1 X.2.2.2.2.2.1 X.2.2.2.2.2.2.1 X.2.1 X.2.2.1 Y.2.2.2.2.2.2.1 Y.1 Y.2.2.2.2.2.2.2 Y.2.2.2.1 Y.2.2.2.2.1 ∧
    (X.2.1 = 0 → Y.2.1 = nI c' ∧ Y.2.2.2.2.2.1 = nest ∧ (∀ i, i < c → Y.2.2.1 i = cd i) ∧ EXPR n fam ge c c' Y.2.2.1 X.1)
def QCX (n u : Nat) (pr a b g : Nat → Nat) (an : Nat → Nat → Bool) (yr : Nat → Int32) (lc : Nat → Nat) (lt : Nat → Nat → Nat) (fam : Nat → Int64) (ge q : Nat → Int32) : Prop :=
  WF n u pr a b g ∧ ANC n pr a b an ∧ MX n u pr a b fam ∧ (∀ p, p < n → ge p = nI (g p)) ∧ PM n lc lt yr fam ∧ ∀ w p, w < 7 → p < n → q (w * 16 + p) = PV n u pr a b g an yr w p
def MCMP (bf : Nat → Int32) (len nested next begins token error errorAt cc : Int32) (cd : Nat → Int32) : Option QY :=
  ob (p10_compileValue len next begins token error errorAt cc bf cd) (uc7 fun b2 c2 d2 e2 a2 n2 t2 => ob (p10_isSymbol b2 t2 e2 bf 60) (fun r94 => cond r94 (p10_compileFactor_J122 bf len nested (-20) n2 b2 t2 e2 a2 c2 d2) (ob (p10_isSymbol b2 t2 e2 bf 61) (fun r108 => cond r108 (p10_compileFactor_J122 bf len nested (-21) n2 b2 t2 e2 a2 c2 d2) (p10_compileFactor_J122 bf len nested (-22) n2 b2 t2 e2 a2 c2 d2)))))
section QCMP
variable {B : Nat → Nat} {L : Nat} {bs bf : Nat → Int32} {n u : Nat} {pr a b g : Nat → Nat} {an : Nat → Nat → Bool} {yr : Nat → Int32} {lc : Nat → Nat} {lt : Nat → Nat → Nat} {ge q p1 cd : Nat → Int32} {fam : Nat → Int64} {s e k c : Nat} {kind start stop value code errS errorAt : Int32} {lv rv : Nat → Int32}
theorem symE {begins token error v : Int32} (h : ¬ error = 0) : p10_isSymbol begins token error bf v = some false := by
  unfold p10_isSymbol
  rw [if_neg h]
theorem fineT : p3_isFine 0 = true := rfl
theorem fineF {x : Int32} (h : ¬ x = 0) : p3_isFine x = false := by unfold p3_isFine; rw [if_neg h]
theorem J60_err (H : BUF B L bs bf) (P : PT B L s e k) (hn : n ≤ 16) (hc : ¬ code = 0) (v1 value errS : Int32) (lv rv : Nat → Int32) :
    ∃ rv', p5_readComparison_J60 (nI n) bs (nI L) q rv v1 (nI k) (nI s) (nI e) value code errS lv = some (0, code, errS, nI k, nI s, nI e, value, lv, rv') := by
  obtain ⟨⟨p1', e1⟩, -⟩ := value_err (cd := lv) (p1 := rv) (q := q) H P hn hc value errS errS 0
  refine ⟨p1', ?_⟩
  unfold p5_readComparison_J60
  rw [X_advE hc]
  simp only [ob, uc4]
  rw [e1]
  simp only [uc7]
  rw [fineF hc]
  rfl
theorem J147_err (H : BUF B L bs bf) (P : PT B L s e k) (hc : ¬ code = 0) (nested x errorAt cc : Int32) :
    p10_compileFactor_J147 bf (nI L) nested x (nI e) (nI s) (nI k) code errorAt cc cd = some (nI s, cc, cd, code, errorAt, nested, nI e, nI k) := by
  obtain ⟨-, e1⟩ := value_err (n := 0) (cd := cd) (p1 := cd) (q := cd) H P (by omega) hc 0 0 errorAt cc
  unfold p10_compileFactor_J147
  rw [M_advE hc]
  simp only [ob, uc3]
  rw [e1]
  simp only [uc7]
  rw [emitE hc]
  rfl
theorem J122_err (H : BUF B L bs bf) (P : PT B L s e k) (hc : ¬ code = 0) (nested x errorAt cc : Int32) :
    p10_compileFactor_J122 bf (nI L) nested x (nI e) (nI s) (nI k) code errorAt cc cd = some (nI s, cc, cd, code, errorAt, nested, nI e, nI k) := by
  unfold p10_compileFactor_J122
  rw [symE hc, checkE hc, checkE hc]
  simp only [ob, lb_eq, uc2, cond_false]
  rw [J147_err H P hc, ite_self]
theorem J147_fine (H : BUF B L bs bf) (hL : L ≤ 200) (C : QCX n u pr a b g an yr lc lt fam ge q) (P : PT B L s e k) (hk : k = 3) {x v x1 : Int32} (hx : CMP v x) {c0 s0 : Nat} (hc0 : c0 ≤ s0) (hs : s0 < s) (hv : VALC n u pr a b g an yr x1 lv) (value nested errorAt : Int32) :
    ∃ X Y, p5_readComparison_J60 (nI n) bs (nI L) q rv v (nI k) (nI s) (nI e) value 0 (-1) lv = some X ∧ p10_compileFactor_J147 bf (nI L) nested x (nI e) (nI s) (nI k) 0 errorAt (nI (c0 + 1)) (upd cd c0 x1) = some Y ∧ QR B L n fam ge s0 c0 cd nested X Y := by
  obtain ⟨W, AN, F, hg, PMf, hq⟩ := C
  have hn := W.n16
  have hse : s < e := P.2.2.2.1 (by omega)
  obtain ⟨s2, e2, k2, v2, a1, a2, P2, V2, l2⟩ := adv_fine2 H P (nI k) (nI s) value (nI s) (nI k)
  have hs2 : s2 ≤ e2 := P2.1
  have he2 : e2 ≤ L := P2.2.1
  obtain ⟨code3, errS3, kind3, start3, stop3, value3, rv3, begins3, cc3, cd3, errorAt3, next3, token3, b1, b2, S, hok⟩ := value_fine (p1 := rv) (cd := upd cd c0 x1) H P2 V2 hn hq (fun _ => show c0 + 1 < 200 by omega) errorAt
  rcases S.cases with ⟨s3, e3, k3, P3, rfl, rfl, rfl, rfl, rfl, rfl, rfl, -, V3, rfl, l3⟩ | ⟨s3, e3, k3, c3, P3, rfl, rfl, rfl, rfl, rfl, rfl, rfl, -, hc3, h03, rfl⟩
  · obtain ⟨hse2, rfl, x2, rfl, hv2⟩ := hok rfl
    obtain ⟨m, d1, d2⟩ := X5_mask (lv := lv) (rv := rv3) hn v
    refine ⟨(m, 0, -1, nI k3, nI s3, nI e3, value3, lv, rv3), (nI s3, nI (c0 + 3), upd (upd (upd cd c0 x1) (c0 + 1) x2) (c0 + 2) x, 0, errorAt3, nested, nI e3, nI k3), ?_, ?_, ?_⟩
    · unfold p5_readComparison_J60
      rw [a1]
      simp only [ob, uc4]
      rw [b1]
      simp only [uc7]
      rw [fineT, d1]
      rfl
    · unfold p10_compileFactor_J147
      rw [a2]
      simp only [ob, uc3]
      rw [b2]
      simp only [uc7]
      rw [show c0 + 1 + 1 = c0 + 2 from rfl, emit0 (by omega)]
      rfl
    · refine ⟨c0 + 3, SIMQ.fine P3 V3 (by omega), fun _ => ⟨rfl, rfl, fun i hi => ?_, ?_⟩⟩
      · show upd (upd (upd cd c0 x1) (c0 + 1) x2) (c0 + 2) x i = cd i
        rw [upd_ne (by omega), upd_ne (by omega), upd_ne (by omega)]
      · show EXPR n fam ge c0 (c0 + 3) (upd (upd (upd cd c0 x1) (c0 + 1) x2) (c0 + 2) x) m
        exact EXPR.cmp (lv := lv) (rv := rv3) W AN F hg PMf hv hv2 hx (by rw [upd_ne (by omega), upd_ne (by omega), upd_eq]) (by rw [upd_ne (by omega), upd_eq]) (by rw [upd_eq]) d2
  · have hcc := nIc hc3 h03
    refine ⟨(0, nI c3, errorAt3, nI k3, nI s3, nI e3, value3, lv, rv3), (nI s3, cc3, cd3, nI c3, errorAt3, nested, nI e3, nI k3), ?_, ?_, 0, SIMQ.err P3 hc3 h03, fun z => absurd z hcc⟩
    · unfold p5_readComparison_J60
      rw [a1]
      simp only [ob, uc4]
      rw [b1]
      simp only [uc7]
      rw [fineF hcc]
      rfl
    · unfold p10_compileFactor_J147
      rw [a2]
      simp only [ob, uc3]
      rw [b2]
      simp only [uc7]
      rw [emitE hcc]
      rfl
theorem sign_true {kind value v : Int32} (h : p3_isSign kind value v = true) : kind = 3 ∧ value = v := by
  unfold p3_isSign at h
  by_cases c1 : kind = 3
  · rw [if_pos c1] at h
    by_cases c2 : value = v
    · exact ⟨c1, c2⟩
    · rw [if_neg c2] at h; exact Bool.noConfusion h
  · rw [if_neg c1] at h; exact Bool.noConfusion h
theorem cmp_fine (H : BUF B L bs bf) (hL : L ≤ 200) (C : QCX n u pr a b g an yr lc lt fam ge q) (P : PT B L s e k) (V : VAL B s e k value) (hc : c ≤ s) (nested errorAt : Int32) (lv rv cd : Nat → Int32) :
    ∃ X Y, p5_readComparison (nI L) (nI k) (nI s) (nI e) value 0 (-1) (nI n) bs lv q rv = some X ∧ MCMP bf (nI L) nested (nI e) (nI s) (nI k) 0 errorAt (nI c) cd = some Y ∧ QR B L n fam ge s c cd nested X Y := by
  have hn := C.1.n16
  have h10 : ¬ (1 : Int32) = 0 := by decide
  unfold p5_readComparison MCMP
  have hs0 : s ≤ e := P.1
  have he0 : e ≤ L := P.2.1
  have hc2 : k ≠ 0 → c < 200 := fun h => by have := P.2.2.2.1 h; omega
  obtain ⟨code1, errS1, kind1, start1, stop1, value1, lv1, begins1, cc1, cd1, errorAt1, next1, token1, b1, b2, S, hok⟩ := value_fine (p1 := lv) (cd := cd) H P V hn C.2.2.2.2.2 hc2 errorAt
  rw [b1, b2]
  simp only [ob, uc7]
  rcases S.cases with ⟨s1, e1, k1, P1, rfl, rfl, rfl, rfl, rfl, rfl, rfl, -, V1, rfl, l1⟩ | ⟨s1, e1, k1, c1, P1, rfl, rfl, rfl, rfl, rfl, rfl, rfl, -, hc1, h01, rfl⟩
  · obtain ⟨hse, rfl, x1, rfl, hv⟩ := hok rfl
    obtain ⟨r60, y60, z60⟩ := sign_ok H P1 V1 (v := 60) (by omega)
    obtain ⟨r61, y61, z61⟩ := sign_ok H P1 V1 (v := 61) (by omega)
    obtain ⟨r62, y62, z62⟩ := sign_ok H P1 V1 (v := 62) (by omega)
    have y60' : p3_isSign (nI k1) value1 60 = r60 := y60
    have y61' : p3_isSign (nI k1) value1 61 = r61 := y61
    have y62' : p3_isSign (nI k1) value1 62 = r62 := y62
    have z60' : p10_isSymbol (nI s1) (nI k1) 0 bf 60 = some r60 := z60
    have z61' : p10_isSymbol (nI s1) (nI k1) 0 bf 61 = some r61 := z61
    have z62' : p10_isSymbol (nI s1) (nI k1) 0 bf 62 = some r62 := z62
    have hk1 : k1 < 4 := P1.2.2.1
    have hk3 : nI k1 = 3 → k1 = 3 := fun z => (nI_eq (a := k1) (b := 3) (by omega) (by omega)).mp z
    rw [y60', y61', y62', z60', z61']
    simp only []
    cases r60 with
    | true =>
      obtain ⟨t1, t2⟩ := sign_true y60'
      have := J147_fine (rv := rv) (lv := lv1) (cd := cd) (v := value1) (x := -20) H hL C P1 (hk3 t1) (Or.inl ⟨t2, rfl⟩) hc (by omega) hv value1 nested errorAt1
      rw [cond_true, cond_true]
      unfold p10_compileFactor_J122
      rw [if_neg (show ¬ (-20 : Int32) = -22 by decide), checkT]
      exact this
    | false =>
      rw [cond_false, cond_false]
      cases r61 with
      | true =>
        obtain ⟨t1, t2⟩ := sign_true y61'
        have := J147_fine (rv := rv) (lv := lv1) (cd := cd) (v := value1) (x := -21) H hL C P1 (hk3 t1) (Or.inr (Or.inl ⟨t2, rfl⟩)) hc (by omega) hv value1 nested errorAt1
        rw [cond_true, cond_true]
        unfold p10_compileFactor_J122
        rw [if_neg (show ¬ (-21 : Int32) = -22 by decide), checkT]
        exact this
      | false =>
        rw [cond_false, cond_false]
        unfold p10_compileFactor_J122
        rw [if_pos rfl, z62']
        simp only [ob]
        cases r62 with
        | true =>
          obtain ⟨t1, t2⟩ := sign_true y62'
          have := J147_fine (rv := rv) (lv := lv1) (cd := cd) (v := value1) (x := -22) H hL C P1 (hk3 t1) (Or.inr (Or.inr ⟨t2, rfl⟩)) hc (by omega) hv value1 nested errorAt1
          rw [cond_true, cond_true, checkT]
          exact this
        | false =>
          rw [cond_false, cond_false, fail0, checkF0]
          simp only [lb_eq, uc2]
          obtain ⟨rv', w1⟩ := J60_err (q := q) H P1 hn h10 value1 value1 (nI s1) lv1 rv
          rw [w1, J147_err H P1 h10]
          exact ⟨_, _, rfl, rfl, 0, SIMQ.err (c := 1) P1 (by omega) (by omega), fun z => absurd z h10⟩
  · have hcc := nIc hc1 h01
    obtain ⟨rv', w1⟩ := J60_err (q := q) H P1 hn hcc value1 value1 errorAt1 lv1 rv
    rw [symE hcc, symE hcc, failE hcc]
    simp only [lb_eq, uc2]
    rw [w1, cond_false, cond_false, J122_err H P1 hcc]
    have hz : ∀ (b1 b2 b3 : Bool) (y : Option QX), cond b1 y (cond b2 y (cond b3 y y)) = y := fun b1 b2 b3 y => by cases b1 <;> cases b2 <;> cases b3 <;> rfl
    rw [hz]
    exact ⟨_, _, rfl, rfl, 0, SIMQ.err P1 hc1 h01, fun z => absurd z hcc⟩
end QCMP
