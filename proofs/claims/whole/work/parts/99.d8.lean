/-! queries: not, brackets; all depths -/
section QFACT
variable {B : Nat → Nat} {L : Nat} {bs bf : Nat → Int32} {n u : Nat} {pr a b g : Nat → Nat} {an : Nat → Nat → Bool} {yr : Nat → Int32} {lc : Nat → Nat} {lt : Nat → Nat → Nat} {ge q cd : Nat → Int32} {fam : Nat → Int64} {s e k c v s2 e2 k2 : Nat} {value errorAt : Int32} {kc : KC} {km : KM}
theorem enter_fine (hv : v < 6) (a2 : p10_advance (nI L) (nI e) (nI s) (nI k) 0 bf = some (nI s2, nI e2, nI k2)) : p10_enter (nI L) (nI e) (nI s) (nI k) 0 errorAt (nI v) bf = some (nI s2, 0, errorAt, nI (v + 1), nI e2, nI k2) := by
  unfold p10_enter p10_enter_J19
  rw [n6, if_neg (nI_ge hv (by omega)), checkT]
  simp only [lb_eq, uc2]
  rw [a2, n1, nI_add]
  rfl
theorem enter_deep : p10_enter (nI L) (nI e) (nI s) (nI k) 0 errorAt (nI 6) bf = some (nI s, 3, nI s, nI 6 + 1, nI e, nI k) := by
  unfold p10_enter p10_enter_J19
  rw [n6, if_pos (nI_le (Nat.le_refl _) (by omega)), checkF0]
  simp only [lb_eq, uc2]
  rw [M_advE (show ¬ (3 : Int32) = 0 by decide)]
  rfl
theorem factor_step (H : BUF B L bs bf) (hL : L ≤ 200) (C : QCX n u pr a b g an yr lc lt fam ge q) (hv : v ≤ 6) (K : v < 6 → FACT B L bs bf n fam ge q kc km (v + 1)) : FACT B L bs bf n fam ge q (p5_readFactor_O kc) (p10_compileFactor_O km) v := by
  intro s e k c value errorAt lv rv cd P V hc
  have hn := C.1.n16
  have h30 : ¬ (3 : Int32) = 0 := by decide
  have h10 : ¬ (1 : Int32) = 0 := by decide
  have hs0 : s ≤ e := P.1
  have he0 : e ≤ L := P.2.1
  have hv1 : nI v + 1 = nI (v + 1) := by rw [n1, nI_add]
  have hv2 : nI (v + 1) - 1 = nI v := by rw [n1, nI_sub (by omega)]; rfl
  obtain ⟨r4, w1, w2, w3⟩ := isWord_ok H P 4
  unfold p5_readFactor_O p10_compileFactor_O
  rw [w1, w2]
  simp only [ob]
  cases r4 with
  | true =>
    rw [cond_true, cond_true]
    unfold p5_readFactor_J31
    have hse : s < e := P.2.2.2.1 (by have := w3 rfl; omega)
    by_cases h6 : v < 6
    · obtain ⟨s2, e2, k2, v', a1, a2, P2, V2, l2⟩ := adv_fine2 H P (nI k) (nI s) value (nI s) (nI k)
      have hs2 : s2 ≤ e2 := P2.1
      have he2 : e2 ≤ L := P2.2.1
      obtain ⟨X, Y, b1, b2, Q⟩ := K h6 s2 e2 k2 c v' errorAt lv rv cd P2 V2 (by omega)
      rw [if_pos (show nI v < 6 from nI_lt (b := 6) h6 (by omega)), enter_fine h6 a2]
      simp only [ob, uc6]
      rw [if_pos trivial]
      unfold p5_readFactor_J45
      rw [fineT, cond_true, a1]
      simp only [ob, uc4, cond_true]
      rw [hv1, b1, b2]
      rcases Q.cases with ⟨r3, s3, e3, k3, c3, value3, lv3, rv3, cd3, errorAt3, rfl, rfl, P3, V3, l3, ha3, E3⟩ | ⟨r3, s3, e3, k3, cc3, cd3, ce3, value3, lv3, rv3, errorAt3, ne3, rfl, rfl, P3, h53, h03⟩
      · have hs3 : s3 ≤ e3 := P3.1
        have he3 : e3 ≤ L := P3.2.1
        have hE3 := E3.1
        simp only [ob, uc9, uc8]
        unfold p10_compileFactor_J25
        rw [emit0 (by omega)]
        simp only [ob, uc2, lb_eq]
        rw [hv2]
        exact ⟨_, _, rfl, rfl, QR.fine P3 V3 (by omega) (fun i hi => by rw [upd_ne (by omega), ha3 i hi]) (EXPR.not hn (E3.congr fun i i1 i2 => by rw [upd_ne (by omega)]) upd_eq)⟩
      · have hcc := nIc h53 h03
        simp only [ob, uc9, uc8]
        unfold p10_compileFactor_J25
        rw [emitE hcc]
        exact ⟨_, _, rfl, rfl, QR.err P3 h53 h03⟩
    · have h6' : v = 6 := by omega
      subst h6'
      rw [if_neg (show ¬ nI 6 < 6 by decide), enter_deep, fail0]
      simp only [ob, uc6, uc2, lb_eq]
      rw [if_neg h30]
      unfold p5_readFactor_J45 p10_compileFactor_J25
      rw [fineF h30, cond_false, emitE h30]
      exact ⟨_, _, rfl, rfl, QR.err (ce := 3) P (by omega) (by omega)⟩
  | false =>
    rw [cond_false, cond_false]
    obtain ⟨r40, y1, y2⟩ := sign_ok H P V (v := 40) (by omega)
    rw [show p3_isSign (nI k) value 40 = r40 from y1, show p10_isSymbol (nI s) (nI k) 0 bf 40 = some r40 from y2]
    simp only [ob]
    cases r40 with
    | true =>
      rw [cond_true, cond_true]
      unfold p5_readFactor_J31
      by_cases h6 : v < 6
      · obtain ⟨s2, e2, k2, v', a1, a2, P2, V2, l2⟩ := adv_fine2 H P (nI k) (nI s) value (nI s) (nI k)
        have hs2 : s2 ≤ e2 := P2.1
        have he2 : e2 ≤ L := P2.2.1
        obtain ⟨X, Y, b1, b2, Q⟩ := test_ok H hL (K h6) s2 e2 k2 c v' errorAt lv rv cd P2 V2 (by omega)
        rw [if_pos (show nI v < 6 from nI_lt (b := 6) h6 (by omega)), enter_fine h6 a2]
        simp only [ob, uc6]
        rw [if_pos trivial]
        unfold p5_readFactor_J45
        rw [fineT, cond_true, a1]
        simp only [ob, uc4, cond_false]
        rw [hv1, b1, b2]
        rcases Q.cases with ⟨r3, s3, e3, k3, c3, value3, lv3, rv3, cd3, errorAt3, rfl, rfl, P3, V3, l3, ha3, E3⟩ | ⟨r3, s3, e3, k3, cc3, cd3, ce3, value3, lv3, rv3, errorAt3, ne3, rfl, rfl, P3, h53, h03⟩
        · have hs3 : s3 ≤ e3 := P3.1
          have he3 : e3 ≤ L := P3.2.1
          have hE3 := E3.1
          simp only [ob, uc9, uc8]
          unfold p10_compileFactor_J68 p10_expect
          obtain ⟨r41, z1, z2⟩ := sign_ok H P3 V3 (v := 41) (by omega)
          rw [show p3_isSign (nI k3) value3 41 = r41 from z1, show p10_isSymbol (nI s3) (nI k3) 0 bf 41 = some r41 from z2]
          simp only [ob, lb_eq]
          cases r41 with
          | true =>
            obtain ⟨s4, e4, k4, v4, d1, d2, P4, V4, l4⟩ := adv_fine2 H P3 (nI k3) (nI s3) value3 (nI s3) (nI k3)
            rw [cond_true, checkT]
            simp only [uc2]
            unfold p5_readFactor_J111
            rw [d1, d2]
            simp only [ob, uc4, uc3, uc5]
            rw [hv2]
            exact ⟨_, _, rfl, rfl, QR.fine P4 V4 (by omega) ha3 E3⟩
          | false =>
            rw [cond_false, checkF0, fail0]
            simp only [uc2]
            unfold p5_readFactor_J111
            rw [X_advE h10, M_advE h10]
            exact ⟨_, _, rfl, rfl, QR.err (ce := 1) P3 (by omega) (by omega)⟩
        · have hcc := nIc h53 h03
          simp only [ob, uc9, uc8]
          unfold p10_compileFactor_J68 p10_expect p5_readFactor_J111
          rw [symE hcc, X_advE hcc, failE hcc]
          simp only [ob, lb_eq, uc2]
          rw [checkE hcc]
          simp only [uc2]
          rw [M_advE hcc, X_advE hcc]
          simp only [uc3, uc4, uc5]
          have hz : ∀ (b1 : Bool) (y : Option QX), cond b1 y y = y := fun b1 y => by cases b1 <;> rfl
          rw [hz]
          exact ⟨_, _, rfl, rfl, QR.err P3 h53 h03⟩
      · have h6' : v = 6 := by omega
        subst h6'
        rw [if_neg (show ¬ nI 6 < 6 by decide), enter_deep, fail0]
        simp only [ob, uc6, uc2, lb_eq]
        rw [if_neg h30]
        unfold p5_readFactor_J45 p10_compileFactor_J68 p10_expect
        rw [fineF h30, cond_false, symE h30]
        simp only [ob, lb_eq]
        rw [checkE h30]
        simp only [uc2]
        rw [M_advE h30]
        exact ⟨_, _, rfl, rfl, QR.err (ce := 3) P (by omega) (by omega)⟩
    | false =>
      rw [cond_false, cond_false]
      obtain ⟨X, Y, b1, b2, Q⟩ := cmp_fine H hL C P V hc (nI v) errorAt lv rv cd
      refine ⟨X, Y, ?_, b2, Q⟩
      rw [b1]
      rfl
theorem factor_ok (H : BUF B L bs bf) (hL : L ≤ 200) (C : QCX n u pr a b g an yr lc lt fam ge q) : ∀ d v, v ≤ 6 → 7 ≤ d + v → FACT B L bs bf n fam ge q (p5_readFactor d) (p10_compileFactor d) v := by
  intro d
  induction d with
  | zero => intro v h1 h2; omega
  | succ d ih =>
    intro v h1 h2
    have h := factor_step (kc := p5_readFactor d) (km := p10_compileFactor d) H hL C h1 (fun h6 => ih (v + 1) (by omega) (by omega))
    intro s e k c value errorAt lv rv cd P V hc
    exact h s e k c value errorAt lv rv cd P V hc
end QFACT
