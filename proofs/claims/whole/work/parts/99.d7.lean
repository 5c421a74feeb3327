/-! queries: a whole test -/
section QTEST
variable {B : Nat → Nat} {L : Nat} {bs bf : Nat → Int32} {n : Nat} {ge q cd cd0 : Nat → Int32} {fam : Nat → Int64} {s e k c s0 c0 v : Nat} {kind start stop value code errS errorAt : Int32} {kc : KC} {km : KM}
theorem test_loop (H : BUF B L bs bf) (hL : L ≤ 200) (hc0 : c0 ≤ s0) (K : FACT B L bs bf n fam ge q kc km v) : ∀ d f1 f2 w v2 X Y, QR B L n fam ge s0 c0 cd0 (nI v) (v2 ||| X.1, X.2) Y → (X.2.1 = 0 → p3_isWord X.2.2.2.1 X.2.2.2.2.1 X.2.2.2.2.2.1 bs 11 = some false ∧ L - X.2.2.2.2.1.toNatClampNeg ≤ d ∧ w ≤ X.2.2.2.2.1.toNatClampNeg) → d < f1 → d < f2 →
    ∃ v2' X' Y', QCL n L bs q kc v f1 v2 w X = some (v2', X') ∧ QCT L bf km f2 Y = some Y' ∧ QR B L n fam ge s0 c0 cd0 (nI v) (v2' ||| X'.1, X'.2) Y' := by
  intro d
  induction d using Nat.strongRecOn with
  | ind d ih =>
    intro f1 f2 w v2 X Y hQ hx h1 h2
    obtain ⟨f1, rfl⟩ : ∃ f, f1 = f + 1 := ⟨f1 - 1, by omega⟩
    obtain ⟨f2, rfl⟩ : ∃ f, f2 = f + 1 := ⟨f2 - 1, by omega⟩
    obtain ⟨r, X2⟩ := X
    rcases hQ.cases with ⟨r', s, e, k, c, value, lv, rv, cd, errorAt, hX, rfl, P, V, l, ha, E⟩ | ⟨r', s, e, k, cc, cd, ce, value, lv, rv, errorAt, ne, hX, rfl, P, h5, h0⟩
    · have hr : v2 ||| r = r' := congrArg (·.1) hX
      have hX2 : X2 = (0, -1, nI k, nI s, nI e, value, lv, rv) := congrArg (·.2) hX
      clear hX
      subst hr
      subst hX2
      have hs0 : s ≤ e := P.1
      have he0 : e ≤ L := P.2.1
      obtain ⟨h11, hd, hw⟩ := hx rfl
      dsimp only at h11 hd hw
      rw [nI_clamp (by omega)] at hd hw
      obtain ⟨ra, e1, ⟨rfl, e2⟩ | ⟨rfl, s2, e2, k2, v', a1, a2, P2, V2, hse, l2⟩⟩ := acc_fine H P 12 (nI k) (nI s) value
      · refine ⟨v2, (r, 0, -1, nI k, nI s, nI e, value, lv, rv), _, ?_, ?_, hQ⟩
        · unfold QCL
          dsimp only
          rw [p5_readTest_L11, p5_readTest_L11_B, fineT, cond_true, h11]
          simp only [ob, cond_false]
          rw [e1]
          simp only [ob, cond_false, ite_self]
        · unfold QCT
          dsimp only
          rw [p10_compileTest_L4, p10_compileTest_L4_B, e2]
          rfl
      · have hs2 : s2 ≤ e2 := P2.1
        have he2 : e2 ≤ L := P2.2.1
        have hE := E.1
        have hcl : ∀ X2, kc (nI L) (nI k2) (nI s2) (nI e2) v' 0 (-1) (nI n) bs lv q rv (nI v) = some X2 → QCL n L bs q kc v (f1 + 1) v2 w (r, 0, -1, nI k, nI s, nI e, value, lv, rv) = QCL n L bs q kc v f1 (v2 ||| r) (w + 1) X2 := by
          intro X2 b1
          obtain ⟨r2, code2, errS2, kind2, start2, stop2, value2, lv2, rv2⟩ := X2
          unfold QCL
          dsimp only
          rw [p5_readTest_L11, p5_readTest_L11_B, if_neg (show ¬ (200 : Int32) ≤ nI w from nI_ge (b := 200) (by omega) (by omega)), fineT, cond_true, h11]
          simp only [ob, cond_false]
          rw [e1]
          simp only [ob, cond_true]
          rw [a1]
          simp only [uc4, lb_eq]
          rw [b1]
          simp only [uc9]
          rw [n1, nI_add]
        obtain ⟨X2, Y2, b1, b2, Q2⟩ := K s2 e2 k2 c v' errorAt lv rv cd P2 V2 (by omega)
        have hX2 : X2.2.1 = 0 → L - X2.2.2.2.2.1.toNatClampNeg ≤ min (d - 1) 200 ∧ w + 1 ≤ X2.2.2.2.2.1.toNatClampNeg := by
          intro hz
          rcases Q2.cases with ⟨r3, s3, e3, k3, c3, value3, lv3, rv3, cd3, errorAt3, rfl, rfl, P3, V3, l3, ha3, E3⟩ | ⟨r3, s3, e3, k3, cc3, cd3, ce3, value3, lv3, rv3, errorAt3, ne3, rfl, rfl, P3, h53, h03⟩
          · have hs3 : s3 ≤ e3 := P3.1
            have he3 : e3 ≤ L := P3.2.1
            have hE3 := E3.1
            dsimp only
            rw [nI_clamp (by omega)]
            omega
          · exact absurd hz (nIc h53 h03)
        obtain ⟨f1', w', X3, Y3, g1, g2, Q3, g4, g5⟩ := conj_ok (s0 := s2) (c0 := c) (cd0 := cd) H hL (by omega) K (v2 ||| r) (min (d - 1) 200) f1 FU (w + 1) X2 Y2 Q2 hX2 (by omega) (by show min (d - 1) 200 < 1024; omega)
        have hcm : ∀ Y4 : QY, ob (p10_emit Y3.2.2.2.1 Y3.2.1 Y3.2.2.1 (-25)) (uc2 fun a b => some (Y3.1, a, b, Y3.2.2.2.1, Y3.2.2.2.2.1, Y3.2.2.2.2.2.1, Y3.2.2.2.2.2.2.1, Y3.2.2.2.2.2.2.2)) = some Y4 → QCT L bf km (f2 + 1) (nI s, nI c, cd, 0, errorAt, nI v, nI e, nI k) = QCT L bf km f2 Y4 := by
          intro Y4 hY
          obtain ⟨y1, y2, y3, y4, y5, y6, y7, y8⟩ := Y3
          obtain ⟨x1, x2, x3, x4, x5, x6, x7, x8⟩ := Y2
          dsimp only at hY
          unfold QCT
          dsimp only
          rw [p10_compileTest_L4, p10_compileTest_L4_B, a2]
          simp only [ob, uc4, cond_true]
          unfold p10_compileConjunction
          rw [b2]
          simp only [ob, uc8]
          unfold QCM at g2
          dsimp only at g2
          rw [g2]
          simp only [ob, uc8, p10_compileConjunction_J27]
          cases hm : p10_emit y4 y2 y3 (-25) with
          | none => rw [hm] at hY; exact absurd hY (by simp [ob])
          | some z =>
            obtain ⟨z1, z2⟩ := z
            rw [hm] at hY
            have hY' : (y1, z1, z2, y4, y5, y6, y7, y8) = Y4 := Option.some.inj hY
            rw [← hY']
            rfl
        rcases Q3.cases with ⟨r3, s3, e3, k3, c3, value3, lv3, rv3, cd3, errorAt3, rfl, rfl, P3, V3, l3, ha3, E3⟩ | ⟨r3, s3, e3, k3, cc3, cd3, ce3, value3, lv3, rv3, errorAt3, ne3, rfl, rfl, P3, h53, h03⟩
        · have hs3 : s3 ≤ e3 := P3.1
          have he3 : e3 ≤ L := P3.2.1
          have hE3 := E3.1
          obtain ⟨k1, k2', k3'⟩ := g5 rfl
          dsimp only at k1 k2' k3'
          rw [nI_clamp (by omega)] at k2' k3'
          have Q4 : QR B L n fam ge s0 c0 cd0 (nI v) ((v2 ||| r) ||| r3, 0, -1, nI k3, nI s3, nI e3, value3, lv3, rv3) (nI s3, nI (c3 + 1), upd cd3 c3 (-25), 0, errorAt3, nI v, nI e3, nI k3) :=
            QR.fine P3 V3 (by omega) (fun i hi => by rw [upd_ne (by omega), ha3 i (by omega), ha i hi]) (EXPR.bin (E.congr fun i i1 i2 => by rw [upd_ne (by omega), ha3 i (by omega)]) (E3.congr fun i i1 i2 => by rw [upd_ne (by omega)]) (Or.inr ⟨rfl, rfl⟩) upd_eq)
          obtain ⟨v2', X', Y', m1, m2, m3⟩ := ih (L - s3) (by omega) f1' f2 w' (v2 ||| r) (r3, 0, -1, nI k3, nI s3, nI e3, value3, lv3, rv3) _ Q4 (fun _ => ⟨k1, by dsimp only; rw [nI_clamp (by omega)]; exact Nat.le_refl _, by dsimp only; rw [nI_clamp (by omega)]; exact k2'⟩) k3' (by omega)
          refine ⟨v2', X', Y', ?_, ?_, m3⟩
          · rw [hcl X2 b1, g1, m1]
          · rw [hcm (nI s3, nI (c3 + 1), upd cd3 c3 (-25), 0, errorAt3, nI v, nI e3, nI k3) (by dsimp only; rw [emit0 (by omega)]; rfl), m2]
        · have hcc := nIc h53 h03
          have Q4 : QR B L n fam ge s0 c0 cd0 (nI v) ((v2 ||| r) ||| r3, nI ce3, errorAt3, nI k3, nI s3, nI e3, value3, lv3, rv3) (nI s3, cc3, cd3, nI ce3, errorAt3, ne3, nI e3, nI k3) := QR.err P3 h53 h03
          obtain ⟨v2', X', Y', m1, m2, m3⟩ := ih 0 (by omega) f1' f2 w' (v2 ||| r) (r3, nI ce3, errorAt3, nI k3, nI s3, nI e3, value3, lv3, rv3) _ Q4 (fun z => absurd z hcc) g4 (by omega)
          refine ⟨v2', X', Y', ?_, ?_, m3⟩
          · rw [hcl X2 b1, g1, m1]
          · rw [hcm (nI s3, cc3, cd3, nI ce3, errorAt3, ne3, nI e3, nI k3) (by dsimp only; rw [emitE hcc]; rfl), m2]
    · have hr : v2 ||| r = r' := congrArg (·.1) hX
      have hX2 : X2 = (nI ce, errorAt, nI k, nI s, nI e, value, lv, rv) := congrArg (·.2) hX
      clear hX
      subst hr
      subst hX2
      have hcc := nIc h5 h0
      refine ⟨v2, (r, nI ce, errorAt, nI k, nI s, nI e, value, lv, rv), _, ?_, ?_, hQ⟩
      · unfold QCL
        dsimp only
        rw [p5_readTest_L11, p5_readTest_L11_B, fineF hcc, cond_false, ite_self]
      · unfold QCT
        dsimp only
        rw [p10_compileTest_L4, p10_compileTest_L4_B, acc_err hcc]
        rfl
theorem zero_or' (x : Int32) : 0 ||| x = x := bt_ext fun q _ => by rw [bt_or, bt_zero, Bool.false_or]
theorem test_ok (H : BUF B L bs bf) (hL : L ≤ 200) (K : FACT B L bs bf n fam ge q kc km v) : FACT B L bs bf n fam ge q (p5_readTest kc) (p10_compileTest km) v := by
  intro s e k c value errorAt lv rv cd P V hc
  obtain ⟨X1, Y1, b1, b2, Q1⟩ := K s e k c value errorAt lv rv cd P V hc
  have hX1 : X1.2.1 = 0 → L - X1.2.2.2.2.1.toNatClampNeg ≤ 200 ∧ 0 ≤ X1.2.2.2.2.1.toNatClampNeg := fun _ => by omega
  obtain ⟨f1', w', X2, Y2, g1, g2, Q2, g4, g5⟩ := conj_ok (s0 := s) (c0 := c) (cd0 := cd) H hL hc K 0 200 FU FU 0 X1 Y1 Q1 hX1 (by show 200 < 1024; omega) (by show 200 < 1024; omega)
  have Q2' : QR B L n fam ge s c cd (nI v) (0 ||| X2.1, X2.2) Y2 := by rw [zero_or']; exact Q2
  have hT : ∃ v2' X' Y', QCL n L bs q kc v f1' 0 w' X2 = some (v2', X') ∧ QCT L bf km FU Y2 = some Y' ∧ QR B L n fam ge s c cd (nI v) (v2' ||| X'.1, X'.2) Y' := by
    by_cases hz : X2.2.1 = 0
    · exact test_loop H hL hc K (L - X2.2.2.2.2.1.toNatClampNeg) f1' FU w' 0 X2 Y2 Q2' (fun h => ⟨(g5 h).1, Nat.le_refl _, (g5 h).2.1⟩) (g5 hz).2.2 (by show _ < 1024; omega)
    · exact test_loop H hL hc K 0 f1' FU w' 0 X2 Y2 Q2' (fun h => absurd h hz) g4 (by show 0 < 1024; omega)
  obtain ⟨v2', X', Y', m1, m2, m3⟩ := hT
  refine ⟨(v2' ||| X'.1, X'.2), Y', ?_, ?_, m3⟩
  · unfold p5_readTest
    rw [b1]
    obtain ⟨r1, code1, errS1, kind1, start1, stop1, value1, lv1, rv1⟩ := X1
    simp only [ob, uc9]
    rw [← g1] at m1
    have m1' : p5_readTest_L11 (nI n) bs (nI L) kc q (nI v) FU 0 r1 0 code1 errS1 kind1 start1 stop1 value1 lv1 rv1 = some (v2', X') := m1
    rw [m1']
    rfl
  · unfold p10_compileTest p10_compileConjunction
    rw [b2]
    obtain ⟨x1, x2, x3, x4, x5, x6, x7, x8⟩ := Y1
    simp only [ob, uc8]
    have g2' : p10_compileConjunction_L4 km bf (nI L) FU x1 x2 x3 x4 x5 x6 x7 x8 = some Y2 := g2
    rw [g2']
    obtain ⟨y1, y2, y3, y4, y5, y6, y7, y8⟩ := Y2
    simp only [ob, uc8, p10_compileConjunction_J27]
    have m2' : p10_compileTest_L4 km bf (nI L) FU y1 y2 y3 y4 y5 y6 y7 y8 = some Y' := m2
    rw [m2']
    rfl
end QTEST
