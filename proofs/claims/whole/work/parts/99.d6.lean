/-! queries: and, or: the loops -/
abbrev KC := Int32 → Int32 → Int32 → Int32 → Int32 → Int32 → Int32 → Int32 → (Nat → Int32) → (Nat → Int32) → (Nat → Int32) → (Nat → Int32) → Int32 → Option QX
abbrev KM := Int32 → Int32 → Int32 → Int32 → Int32 → Int32 → Int32 → Int32 → (Nat → Int32) → (Nat → Int32) → Option QY
def FACT (B : Nat → Nat) (L : Nat) (bs bf : Nat → Int32) (n : Nat) (fam : Nat → Int64) (ge q : Nat → Int32) (kc : KC) (km : KM) (v : Nat) : Prop :=
  ∀ (s e k c : Nat) (value errorAt : Int32) (lv rv cd : Nat → Int32), PT B L s e k → VAL B s e k value → c ≤ s →
    ∃ X Y, kc (nI L) (nI k) (nI s) (nI e) value 0 (-1) (nI n) bs lv q rv (nI v) = some X ∧ km (nI L) (nI e) (nI s) (nI k) 0 errorAt (nI v) (nI c) bf cd = some Y ∧ QR B L n fam ge s c cd (nI v) X Y
def QCL (n L : Nat) (bs q : Nat → Int32) (kc : KC) (v f : Nat) (v2 : Int32) (w : Nat) (X : QX) : Option (Int32 × QX) :=
  p5_readTest_L11 (nI n) bs (nI L) kc q (nI v) f v2 X.1 (nI w) X.2.1 X.2.2.1 X.2.2.2.1 X.2.2.2.2.1 X.2.2.2.2.2.1 X.2.2.2.2.2.2.1 X.2.2.2.2.2.2.2.1 X.2.2.2.2.2.2.2.2
def QCM (L : Nat) (bf : Nat → Int32) (km : KM) (f : Nat) (Y : QY) : Option QY :=
  p10_compileConjunction_L4 km bf (nI L) f Y.1 Y.2.1 Y.2.2.1 Y.2.2.2.1 Y.2.2.2.2.1 Y.2.2.2.2.2.1 Y.2.2.2.2.2.2.1 Y.2.2.2.2.2.2.2
def QCT (L : Nat) (bf : Nat → Int32) (km : KM) (f : Nat) (Y : QY) : Option QY :=
  p10_compileTest_L4 km bf (nI L) f Y.1 Y.2.1 Y.2.2.1 Y.2.2.2.1 Y.2.2.2.2.1 Y.2.2.2.2.2.1 Y.2.2.2.2.2.2.1 Y.2.2.2.2.2.2.2
section QLOOP
variable {B : Nat → Nat} {L : Nat} {bs bf : Nat → Int32} {n : Nat} {ge q cd cd0 : Nat → Int32} {fam : Nat → Int64} {s e k c s0 c0 v : Nat} {kind start stop value code errS errorAt : Int32} {kc : KC} {km : KM}
theorem acc_err {next begins token error : Int32} {w : Nat} (h : ¬ error = 0) : p10_accept (nI L) next begins token error bf w = some (false, begins, next, token) := by
  unfold p10_accept
  rw [M_isWordE h]
  rfl
theorem acc_fine (H : BUF B L bs bf) (P : PT B L s e k) (w : Nat) (kind start value : Int32) : ∃ r, p3_isWord (nI k) (nI s) (nI e) bs w = some r ∧
    ((r = false ∧ p10_accept (nI L) (nI e) (nI s) (nI k) 0 bf w = some (false, nI s, nI e, nI k)) ∨
     (r = true ∧ ∃ s' e' k' v', p3_advance (nI L) kind start (nI e) value 0 bs = some (nI k', nI s', nI e', v') ∧ p10_accept (nI L) (nI e) (nI s) (nI k) 0 bf w = some (true, nI s', nI e', nI k') ∧ PT B L s' e' k' ∧ VAL B s' e' k' v' ∧ s < e ∧ e ≤ s')) := by
  obtain ⟨r, e1, e2, h1⟩ := isWord_ok H P w
  refine ⟨r, e1, ?_⟩
  cases r with
  | false =>
    refine Or.inl ⟨rfl, ?_⟩
    unfold p10_accept
    rw [e2]
    rfl
  | true =>
    have he : e ≤ L := P.2.1
    have hk := h1 rfl
    obtain ⟨v', a1, V⟩ := X3_advance H he kind start value
    obtain ⟨P', -⟩ := tok_PT (B := B) he
    refine Or.inr ⟨rfl, _, _, _, v', a1, ?_, P', V, P.2.2.2.1 (by omega), (tS_le (B := B) he).1⟩
    unfold p10_accept
    rw [e2]
    simp only [ob, cond_true]
    rw [M_scan H he]
    rfl
theorem QR.cases {X : QX} {Y : QY} {nest : Int32} (h : QR B L n fam ge s0 c0 cd0 nest X Y) :
    (∃ r s e k c value lv rv cd errorAt, X = (r, 0, -1, nI k, nI s, nI e, value, lv, rv) ∧ Y = (nI s, nI c, cd, 0, errorAt, nest, nI e, nI k) ∧ PT B L s e k ∧ VAL B s e k value ∧ c + (s0 - c0) ≤ s ∧ (∀ i, i < c0 → cd i = cd0 i) ∧ EXPR n fam ge c0 c cd r) ∨
    (∃ r s e k cc cd ce value lv rv errorAt ne, X = (r, nI ce, errorAt, nI k, nI s, nI e, value, lv, rv) ∧ Y = (nI s, cc, cd, nI ce, errorAt, ne, nI e, nI k) ∧ PT B L s e k ∧ ce ≤ 5 ∧ ce ≠ 0) := by
  obtain ⟨r, code, errS, kind, start, stop, value, lv, rv⟩ := X
  obtain ⟨begins, cc, cd, error, errorAt, nested, next, token⟩ := Y
  obtain ⟨c', S, hok⟩ := h
  dsimp only at S hok
  rcases S.cases with ⟨s, e, k, P, rfl, rfl, rfl, rfl, rfl, rfl, rfl, rfl, V, rfl, l⟩ | ⟨s, e, k, ce, P, rfl, rfl, rfl, rfl, rfl, rfl, rfl, rfl, h5, h0, rfl⟩
  · obtain ⟨rfl, rfl, h1, E⟩ := hok rfl
    exact Or.inl ⟨_, _, _, _, _, _, _, _, _, _, rfl, rfl, P, V, l, h1, E⟩
  · exact Or.inr ⟨_, _, _, _, _, _, _, _, _, _, _, _, rfl, rfl, P, h5, h0⟩
theorem QR.fine {r value errorAt nest : Int32} {lv rv : Nat → Int32} (P : PT B L s e k) (V : VAL B s e k value) (l : c + (s0 - c0) ≤ s) (h : ∀ i, i < c0 → cd i = cd0 i) (E : EXPR n fam ge c0 c cd r) : QR B L n fam ge s0 c0 cd0 nest (r, 0, -1, nI k, nI s, nI e, value, lv, rv) (nI s, nI c, cd, 0, errorAt, nest, nI e, nI k) :=
  ⟨c, SIMQ.fine P V l, fun _ => ⟨rfl, rfl, h, E⟩⟩
theorem QR.err {r value errorAt nest ne cc : Int32} {lv rv : Nat → Int32} {ce : Nat} (P : PT B L s e k) (h5 : ce ≤ 5) (h0 : ce ≠ 0) : QR B L n fam ge s0 c0 cd0 nest (r, nI ce, errorAt, nI k, nI s, nI e, value, lv, rv) (nI s, cc, cd, nI ce, errorAt, ne, nI e, nI k) :=
  ⟨0, SIMQ.err P h5 h0, fun z => absurd z (nIc h5 h0)⟩
theorem conj_ok (H : BUF B L bs bf) (hL : L ≤ 200) (hc0 : c0 ≤ s0) (K : FACT B L bs bf n fam ge q kc km v) (v2 : Int32) : ∀ d f1 f2 w X Y, QR B L n fam ge s0 c0 cd0 (nI v) X Y → (X.2.1 = 0 → L - X.2.2.2.2.1.toNatClampNeg ≤ d ∧ w ≤ X.2.2.2.2.1.toNatClampNeg) → d < f1 → d < f2 →
    ∃ f1' w' X' Y', QCL n L bs q kc v f1 v2 w X = QCL n L bs q kc v f1' v2 w' X' ∧ QCM L bf km f2 Y = some Y' ∧ QR B L n fam ge s0 c0 cd0 (nI v) X' Y' ∧ 0 < f1' ∧ (X'.2.1 = 0 → p3_isWord X'.2.2.2.1 X'.2.2.2.2.1 X'.2.2.2.2.2.1 bs 11 = some false ∧ w' ≤ X'.2.2.2.2.1.toNatClampNeg ∧ L - X'.2.2.2.2.1.toNatClampNeg < f1') := by
  intro d
  induction d using Nat.strongRecOn with
  | ind d ih =>
    intro f1 f2 w X Y hQ hx h1 h2
    obtain ⟨f1, rfl⟩ : ∃ f, f1 = f + 1 := ⟨f1 - 1, by omega⟩
    obtain ⟨f2, rfl⟩ : ∃ f, f2 = f + 1 := ⟨f2 - 1, by omega⟩
    rcases hQ.cases with ⟨r, s, e, k, c, value, lv, rv, cd, errorAt, rfl, rfl, P, V, l, ha, E⟩ | ⟨r, s, e, k, cc, cd, ce, value, lv, rv, errorAt, ne, rfl, rfl, P, h5, h0⟩
    · have hs0 : s ≤ e := P.1
      have he0 : e ≤ L := P.2.1
      obtain ⟨hd, hw⟩ := hx rfl
      dsimp only at hd hw
      rw [nI_clamp (by omega)] at hd hw
      obtain ⟨ra, e1, ⟨rfl, e2⟩ | ⟨rfl, s2, e2, k2, v', a1, a2, P2, V2, hse, l2⟩⟩ := acc_fine H P 11 (nI k) (nI s) value
      · refine ⟨f1 + 1, w, _, _, rfl, ?_, hQ, by omega, fun _ => ⟨e1, ?_, ?_⟩⟩
        · unfold QCM
          rw [p10_compileConjunction_L4, p10_compileConjunction_L4_B, e2]
          rfl
        · dsimp only; rw [nI_clamp (by omega)]; exact hw
        · dsimp only; rw [nI_clamp (by omega)]; omega
      · have hs2 : s2 ≤ e2 := P2.1
        have he2 : e2 ≤ L := P2.2.1
        have hE := E.1
        obtain ⟨X2, Y2, b1, b2, Q2⟩ := K s2 e2 k2 c v' errorAt lv rv cd P2 V2 (by omega)
        rcases Q2.cases with ⟨r2, s3, e3, k3, c3, value3, lv3, rv3, cd3, errorAt3, rfl, rfl, P3, V3, l3, ha3, E3⟩ | ⟨r2, s3, e3, k3, cc3, cd3, ce3, value3, lv3, rv3, errorAt3, ne3, rfl, rfl, P3, h53, h03⟩
        · have hs3 : s3 ≤ e3 := P3.1
          have he3 : e3 ≤ L := P3.2.1
          have hE3 := E3.1
          have Q4 : QR B L n fam ge s0 c0 cd0 (nI v) (r &&& r2, 0, -1, nI k3, nI s3, nI e3, value3, lv3, rv3) (nI s3, nI (c3 + 1), upd cd3 c3 (-24), 0, errorAt3, nI v, nI e3, nI k3) :=
            QR.fine P3 V3 (by omega) (fun i hi => by rw [upd_ne (by omega), ha3 i (by omega), ha i hi]) (EXPR.bin (E.congr fun i i1 i2 => by rw [upd_ne (by omega), ha3 i (by omega)]) (E3.congr fun i i1 i2 => by rw [upd_ne (by omega)]) (Or.inl ⟨rfl, rfl⟩) upd_eq)
          obtain ⟨f1', w', X', Y', g1, g2, g3⟩ := ih (d - 1) (by omega) f1 f2 (w + 1) _ _ Q4 (fun _ => by dsimp only; rw [nI_clamp (by omega)]; omega) (by omega) (by omega)
          refine ⟨f1', w', X', Y', ?_, ?_, g3⟩
          · rw [← g1]
            unfold QCL
            dsimp only
            rw [p5_readTest_L11, p5_readTest_L11_B, if_neg (show ¬ (200 : Int32) ≤ nI w from nI_ge (b := 200) (by omega) (by omega)), fineT, cond_true, e1]
            simp only [ob, cond_true]
            rw [a1]
            simp only [uc4]
            rw [b1]
            simp only [uc9, lb_eq]
            rw [n1, nI_add]
          · rw [← g2]
            unfold QCM
            dsimp only
            rw [p10_compileConjunction_L4, p10_compileConjunction_L4_B, a2]
            simp only [ob, uc4, cond_true]
            rw [b2]
            simp only [uc8]
            rw [emit0 (by omega)]
            rfl
        · have hcc := nIc h53 h03
          have Q4 : QR B L n fam ge s0 c0 cd0 (nI v) (r &&& r2, nI ce3, errorAt3, nI k3, nI s3, nI e3, value3, lv3, rv3) (nI s3, cc3, cd3, nI ce3, errorAt3, ne3, nI e3, nI k3) := QR.err P3 h53 h03
          obtain ⟨f1', w', X', Y', g1, g2, g3⟩ := ih (d - 1) (by omega) f1 f2 (w + 1) _ _ Q4 (fun z => absurd z hcc) (by omega) (by omega)
          refine ⟨f1', w', X', Y', ?_, ?_, g3⟩
          · rw [← g1]
            unfold QCL
            dsimp only
            rw [p5_readTest_L11, p5_readTest_L11_B, if_neg (show ¬ (200 : Int32) ≤ nI w from nI_ge (b := 200) (by omega) (by omega)), fineT, cond_true, e1]
            simp only [ob, cond_true]
            rw [a1]
            simp only [uc4]
            rw [b1]
            simp only [uc9, lb_eq]
            rw [n1, nI_add]
          · rw [← g2]
            unfold QCM
            dsimp only
            rw [p10_compileConjunction_L4, p10_compileConjunction_L4_B, a2]
            simp only [ob, uc4, cond_true]
            rw [b2]
            simp only [uc8]
            rw [emitE hcc]
            rfl
    · have hcc := nIc h5 h0
      refine ⟨f1 + 1, w, _, _, rfl, ?_, hQ, by omega, fun z => absurd z hcc⟩
      unfold QCM
      rw [p10_compileConjunction_L4, p10_compileConjunction_L4_B, acc_err hcc]
      rfl
end QLOOP
