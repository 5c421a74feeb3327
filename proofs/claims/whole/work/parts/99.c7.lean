/-! a union read -/
section RUNI
variable {B : Nat → Nat} {L lo : Nat} {bs bf : Nat → Int32} {n u : Nat} {pr a b g lc : Nat → Nat} {an : Nat → Nat → Bool} {lt : Nat → Nat → Nat} {yr uy lA letters py pu fp sp uY am : Nat → Int32} {fam : Nat → Int64} {s e k c : Nat} {kind start stop value code errS next begins token error errorAt : Int32}
abbrev UO := (Nat → Int32) × (Nat → Int32) × (Nat → Int32) × Int32 × (Nat → Int32) × Int32 × Int32 × Int32 × Int32 × Int32 × Int32
def U7 (bs : Nat → Int32) (len : Int32) (am fp lA le : Nat → Int32) (pc : Int32) (pu sp uY : Nat → Int32) (uc r29 r41 r59 code errS k s e v : Int32) : Option UO :=
  cond (p3_isFine code) (lb (p1_addUnion uc fp sp uY r29 r41 r59) (uc5 fun r81 fp81 sp81 uc81 uY81 => ob (p8_readUnion_L89 am fp81 lA le pc sp81 bs len r81 FU 0 pu code errS k s e v) (uc7 fun pu' code' errS' k' s' e' v' => p8_readUnion_J130 bs len k' s' e' v' code' errS' uc81 fp81 pu' sp81 uY81))) (some (fp, pu, sp, uc, uY, code, errS, k, s, e, v))
def U5 (bs : Nat → Int32) (len : Int32) (am fp lA le : Nat → Int32) (pc : Int32) (pu sp uY : Nat → Int32) (uc r29 r41 code errS k s e v : Int32) : Option UO :=
  ob (p3_advance len k s e v code bs) (uc4 fun k s e v => ob (p8_readYear len k s e v code errS bs) (uc7 fun r59 code errS k s e v => U7 bs len am fp lA le pc pu sp uY uc r29 r41 r59 code errS k s e v))
def U4 (bs : Nat → Int32) (len : Int32) (am fp lA le : Nat → Int32) (pc : Int32) (pu sp uY : Nat → Int32) (uc r29 r41 code errS k s e v : Int32) : Option UO :=
  ob (p8_checkPair s code errS uc fp sp r29 r41) (uc2 fun code errS => U5 bs len am fp lA le pc pu sp uY uc r29 r41 code errS k s e v)
def U3 (bs : Nat → Int32) (len : Int32) (am fp lA le : Nat → Int32) (pc : Int32) (pu sp uY : Nat → Int32) (uc r29 code errS k s e v : Int32) : Option UO :=
  ob (p8_checkedPerson k s e code errS pc lA le bs) (uc3 fun r41 code errS => U4 bs len am fp lA le pc pu sp uY uc r29 r41 code errS k s e v)
def U2 (bs : Nat → Int32) (len : Int32) (am fp lA le : Nat → Int32) (pc : Int32) (pu sp uY : Nat → Int32) (uc r29 code errS k s e v : Int32) : Option UO :=
  ob (p3_advance len k s e v code bs) (uc4 fun k s e v => U3 bs len am fp lA le pc pu sp uY uc r29 code errS k s e v)
def U1 (bs : Nat → Int32) (len : Int32) (am fp lA le : Nat → Int32) (pc : Int32) (pu sp uY : Nat → Int32) (uc code errS k s e v : Int32) : Option UO :=
  ob (p8_checkedPerson k s e code errS pc lA le bs) (uc3 fun r29 code errS => U2 bs len am fp lA le pc pu sp uY uc r29 code errS k s e v)
theorem readUnion_eq (len k s e v code errS pc uc : Int32) (am fp lA le pu sp uY bs : Nat → Int32) : p8_readUnion len k s e v code errS pc uc am fp lA le pu sp uY bs =
    if uc < 12 then ob (p3_advance len k s e v code bs) (uc4 fun k s e v => U1 bs len am fp lA le pc pu sp uY uc code errS k s e v) else lb (p3_fail s code errS 3) (uc2 fun c q => some (fp, pu, sp, uc, uY, c, q, k, s, e, v)) := rfl
theorem pair_some (uN : Nat) (hu : uN ≤ 12) (fp sp : Nat → Int32) (x y : Int32) : ∃ r, p1_unionOfPair (nI uN) fp sp x y = some r := by
  obtain ⟨r, e1, -⟩ := loop_up (fun t i (_ : Unit) => p1_unionOfPair_L2 fp sp (nI uN) x y t (nI i)) uN (fun _ _ => True) (fun _ => True) (by
    intro t _ _
    refine ⟨.inr (), ?_, trivial⟩
    try dsimp only
    rw [p1_unionOfPair_L2, p1_unionOfPair_L2_B, if_pos (nI_le (Nat.le_refl _) (by omega))]) (by
    intro t i _ hi _
    try dsimp only
    rw [p1_unionOfPair_L2, p1_unionOfPair_L2_B, if_neg (nI_ge hi (by omega))]
    simp only [lb_eq]
    rw [n1, nI_add]
    by_cases c : x = y
    · rw [if_pos c]; exact Or.inl ⟨(), rfl, trivial⟩
    · rw [if_neg c]
      cases p1_isPartner fp sp (nI i) x with
      | false => exact Or.inl ⟨(), rfl, trivial⟩
      | true =>
        cases p1_isPartner fp sp (nI i) y with
        | false => exact Or.inl ⟨(), rfl, trivial⟩
        | true => exact Or.inr ⟨.inl (nI i), rfl, trivial⟩) FU 0 () (Nat.zero_le _) (by show uN - 0 < 1024; omega) trivial
  have e1' : p1_unionOfPair_L2 fp sp (nI uN) x y FU (nI 0) = some r := e1
  unfold p1_unionOfPair
  rw [n0, e1']
  cases r with
  | inl v => exact ⟨v, rfl⟩
  | inr v => exact ⟨-1, rfl⟩
theorem U7_err {pc uc r29 r41 r59 k s e v : Int32} (hc : ¬ code = 0) : U7 bs (nI L) am fp lA letters pc pu sp uY uc r29 r41 r59 code errS k s e v = some (fp, pu, sp, uc, uY, code, errS, k, s, e, v) := by
  unfold U7 p3_isFine
  rw [if_neg hc]
  rfl
theorem U5_err {pc uc r29 r41 : Int32} (H : BUF B L bs bf) (P : PT B L s e k) (hc : ¬ code = 0) : U5 bs (nI L) am fp lA letters pc pu sp uY uc r29 r41 code errS (nI k) (nI s) (nI e) value = some (fp, pu, sp, uc, uY, code, errS, nI k, nI s, nI e, value) := by
  unfold U5
  rw [X_advE hc]
  simp only [ob, uc4]
  rw [(year_err H P hc (nI k) (nI s) (nI e) value errS 0).1]
  simp only [uc7]
  exact U7_err hc
theorem U4_err {pc r29 r41 : Int32} {uN : Nat} (hu : uN ≤ 12) (H : BUF B L bs bf) (P : PT B L s e k) (hc : ¬ code = 0) : U4 bs (nI L) am fp lA letters pc pu sp uY (nI uN) r29 r41 code errS (nI k) (nI s) (nI e) value = some (fp, pu, sp, nI uN, uY, code, errS, nI k, nI s, nI e, value) := by
  have h1 : p8_checkPair (nI s) code errS (nI uN) fp sp r29 r41 = some (code, errS) := by
    unfold p8_checkPair p8_checkPair_J18
    rw [failE hc]
    obtain ⟨r, e1⟩ := pair_some uN hu fp sp r29 r41
    rw [e1]
    simp only [ob, lb_eq, uc2]
    split
    · rfl
    · split <;> rfl
  unfold U4
  rw [h1]
  exact U5_err H P hc
theorem U3_err {r29 : Int32} {uN : Nat} (hu : uN ≤ 12) (H : BUF B L bs bf) (P : PT B L s e k) (N : NMS n lc lt lA letters fam) (hc : ¬ code = 0) : U3 bs (nI L) am fp lA letters (nI n) pu sp uY (nI uN) r29 code errS (nI k) (nI s) (nI e) value = some (fp, pu, sp, nI uN, uY, code, errS, nI k, nI s, nI e, value) := by
  obtain ⟨r, e1⟩ := (name_err H P N hc errS 0).1
  unfold U3
  rw [e1]
  exact U4_err hu H P hc
theorem U2_err {r29 : Int32} {uN : Nat} (hu : uN ≤ 12) (H : BUF B L bs bf) (P : PT B L s e k) (N : NMS n lc lt lA letters fam) (hc : ¬ code = 0) : U2 bs (nI L) am fp lA letters (nI n) pu sp uY (nI uN) r29 code errS (nI k) (nI s) (nI e) value = some (fp, pu, sp, nI uN, uY, code, errS, nI k, nI s, nI e, value) := by
  unfold U2
  rw [X_advE hc]
  exact U3_err hu H P N hc
/-! the reference's road, from stage to stage -/
abbrev WO := Int32 × Int32 × Int32 × (Nat → Int64) × Int32 × Int32
def W4 (bf : Nat → Int32) (fam : Nat → Int64) (len r24 r33 next begins token error errorAt : Int32) : Option WO :=
  if error = 0 then (if r24 = r33 then lb (p10_check begins error errorAt false 5) (uc2 fun e2 a2 => p10_readUnion_J69 bf fam len r24 r33 next begins token e2 a2) else ob (p10_unionOf fam r24 r33) (fun r53 => if r53 = -1 then lb (p10_check begins error errorAt true 5) (uc2 fun e2 a2 => p10_readUnion_J69 bf fam len r24 r33 next begins token e2 a2) else lb (p10_check begins error errorAt false 5) (uc2 fun e2 a2 => p10_readUnion_J69 bf fam len r24 r33 next begins token e2 a2))) else lb (p10_check begins error errorAt true 5) (uc2 fun e2 a2 => p10_readUnion_J69 bf fam len r24 r33 next begins token e2 a2)
def W3 (bf : Nat → Int32) (fam : Nat → Int64) (len r24 next begins token error errorAt : Int32) : Option WO :=
  ob (p10_readName next begins token error errorAt bf fam) (uc3 fun r33 e2 a2 => W4 bf fam len r24 r33 next begins token e2 a2)
def W2 (bf : Nat → Int32) (fam : Nat → Int64) (len r24 next begins token error errorAt : Int32) : Option WO :=
  ob (p10_advance len next begins token error bf) (uc3 fun b2 n2 t2 => W3 bf fam len r24 n2 b2 t2 error errorAt)
def W1 (bf : Nat → Int32) (fam : Nat → Int64) (len next begins token error errorAt : Int32) : Option WO :=
  ob (p10_readName next begins token error errorAt bf fam) (uc3 fun r24 e2 a2 => W2 bf fam len r24 next begins token e2 a2)
theorem J19_eq (len begins next token error errorAt : Int32) : p10_readUnion_J19 begins bf fam len next token error errorAt = ob (p10_advance len next begins token error bf) (uc3 fun b2 n2 t2 => W1 bf fam len n2 b2 t2 error errorAt) := rfl
theorem W5_err {r24 r33 : Int32} (H : BUF B L bs bf) (P : PT B L s e k) (hc : ¬ code = 0) : p10_readUnion_J69 bf fam (nI L) r24 r33 (nI e) (nI s) (nI k) code errorAt = some (nI s, code, errorAt, fam, nI e, nI k) := by
  unfold p10_readUnion_J69
  rw [M_advE hc]
  simp only [ob, uc3]
  rw [(year_err H P hc 0 0 0 0 0 errorAt).2]
  simp only [uc6]
  rw [if_neg hc]
theorem W4_err {r24 r33 : Int32} (H : BUF B L bs bf) (P : PT B L s e k) (hc : ¬ code = 0) : W4 bf fam (nI L) r24 r33 (nI e) (nI s) (nI k) code errorAt = some (nI s, code, errorAt, fam, nI e, nI k) := by
  unfold W4
  rw [if_neg hc, checkE hc]
  exact W5_err H P hc
theorem W2_err {r24 : Int32} (H : BUF B L bs bf) (P : PT B L s e k) (N : NMS n lc lt lA letters fam) (hc : ¬ code = 0) : W2 bf fam (nI L) r24 (nI e) (nI s) (nI k) code errorAt = some (nI s, code, errorAt, fam, nI e, nI k) := by
  unfold W2 W3
  rw [M_advE hc]
  simp only [ob, uc3]
  rw [(name_err H P N hc 0 errorAt).2]
  exact W4_err H P hc
theorem M_addUnion (FM : MX n u pr a b fam) (hu : u < 12) {p q : Nat} (hp : p < 16) (hq : q < 16) (z : Int32) : p10_addUnion fam (nI p) (nI q) z = some (vp_updL (vp_updL (vp_updL (vp_updL fam (66 + 3 * u) (lN p)) (66 + 3 * u + 1) (lN q)) (66 + 3 * u + 2) z.toInt64) 1 (lN (u + 1))) := by
  unfold p10_addUnion
  rw [M_unions FM]
  simp only [ob, lb_eq]
  rw [n66, n3, n1, n2, nI_mul, nI_add, nI_add, nI_add, gd_in (by omega) (by omega), gd_in (by omega) (by omega), gd_in (by omega) (by omega), gd_in (by omega) (by omega), gd_in (by omega) (by omega), nI_clamp (by omega), nI_clamp (by omega), nI_clamp (by omega), nI_clamp (by omega), updL_ne (by omega), updL_ne (by omega), updL_ne (by omega), FM.2.1, lN_1, nI_l (by omega), nI_l (by omega)]
/-- ancestors by the class, before a union is read -/
def AMK (n : Nat) (an : Nat → Nat → Bool) (am : Nat → Int32) : Prop := ∀ p, p < n → ∀ q, bt (am p) q = an p q
theorem union_ok (H : BUF B L bs bf) (P : PT B L s e k) (W : WF n u pr a b g) (AN : ANC n pr a b an) (hC : PC n lc lt) (hX : PX n lc lt yr lA letters py) (F : FX n u pr a b pu fp sp) (hY : ∀ w, w < u → uY w = uy w) (FM : MX n u pr a b fam) (PMf : PM n lc lt yr fam) (hUy : ∀ w, w < u → fam (66 + 3 * w + 2) = (uy w).toInt64) (HA : AMK n an am) (value errorAt : Int32) :
    ∃ fp' pu' sp' uc' uY' code' errS' kind' start' stop' value' next' begins' token' errorAt' fam', p8_readUnion (nI L) (nI k) (nI s) (nI e) value 0 (-1) (nI n) (nI u) am fp lA letters pu sp uY bs = some (fp', pu', sp', uc', uY', code', errS', kind', start', stop', value') ∧
      ob (p10_readUnion (nI L) (nI e) (nI s) (nI k) 0 errorAt bf fam) (uc6 fun b2 e2 a2 f2 n2 t2 => p10_readClause_J39 bf (nI L) n2 b2 t2 e2 a2 f2) = some (begins', code', errorAt', fam', next', token') ∧
      SIM B L e kind' start' stop' value' code' errS' next' begins' token' code' errorAt' ∧ (code' = 0 → DD (nI n) uc' lA letters py pu' fp' sp' uY' fam') ∧ FXW (nI n) uc' pu' fp' sp' := by
  have hF0 : FXW (nI n) (nI u) pu fp sp := ⟨n, u, pr, a, b, g, an, rfl, rfl, W, AN, F⟩
  have hL := H.1
  have hn := W.n16
  have hu := W.u12
  have h30 : ¬ (3 : Int32) = 0 := by decide
  have h50 : ¬ (5 : Int32) = 0 := by decide
  have hN : NMS n lc lt lA letters fam := ⟨hn, hC, hX.1, hX.2.1, FM.1, PMf.2.1⟩
  have hJ : ∀ (s2 e2 k2 : Nat) (code errorAt : Int32), ¬ code = 0 → p10_readClause_J39 bf (nI L) (nI e2) (nI s2) (nI k2) code errorAt fam = some (nI s2, code, errorAt, fam, nI e2, nI k2) := fun s2 e2 k2 code ea hc => by
    unfold p10_readClause_J39
    rw [(semi_err (bs := bs) (L := L) (k2 := nI k2) (s2 := nI s2) (e2 := nI e2) hc 0 0 0 0 0 ea 59).2]
    rfl
  rw [readUnion_eq]
  unfold p10_readUnion
  rw [M_unions FM]
  simp only [ob]
  by_cases cu : u < 12
  case neg =>
    have g3 : ¬ nI u < 12 := nI_nlt (b := 12) (by omega) (by omega)
    have g4 : (12 : Int32) ≤ nI u := nI_le (a := 12) (by omega) (by omega)
    refine ⟨fp, pu, sp, nI u, uY, 3, nI s, nI k, nI s, nI e, value, nI e, nI s, nI k, nI s, fam, ?_, ?_, SIM.err P (c := 3) (by omega) (by omega), fun q => absurd q h30, hF0⟩
    · rw [if_neg g3, fail0]; rfl
    · rw [if_pos g4, checkF0]
      simp only [lb_eq, uc2]
      rw [J19_eq, M_advE h30]
      simp only [ob, uc3]
      unfold W1
      rw [(name_err H P hN h30 0 (nI s)).2]
      simp only [ob, uc3]
      rw [W2_err H P hN h30]
      simp only [uc6]
      exact hJ s e k 3 (nI s) h30
  rw [if_pos (show nI u < 12 from nI_lt (b := 12) cu (by omega)), if_neg (show ¬ (12 : Int32) ≤ nI u from nI_ge (b := 12) cu (by omega)), checkT]
  simp only [lb_eq, uc2]
  obtain ⟨s1, e1, k1, v1, q1, q2, P1, V1, l1, l1'⟩ := adv_fine H P (nI k) (nI s) value (nI s) (nI k)
  rw [q1, J19_eq, q2]
  simp only [ob, uc4, uc3]
  unfold U1 W1
  obtain ⟨r, ⟨p, hp, -, -, y1, y2⟩ | ⟨c1, h5, hc0, y1, y2⟩⟩ := name_fine H P1 hN errorAt
  case inr =>
    have hc := nIc h5 hc0
    rw [y1, y2]
    simp only [ob, uc3]
    rw [U2_err hu H P1 hN hc, W2_err H P1 hN hc]
    simp only [uc6]
    rw [hJ s1 e1 k1 _ _ hc]
    exact ⟨_, _, _, _, _, _, _, _, _, _, _, _, _, _, _, _, rfl, rfl, SIM.err P1 h5 hc0, fun q => absurd q hc, hF0⟩
  rw [y1, y2]
  simp only [ob, uc3]
  obtain ⟨s2, e2, k2, v2, x1, x2, P2, V2, l2, l2'⟩ := adv_fine H P1 (nI k1) (nI s1) v1 (nI s1) (nI k1)
  unfold U2 W2
  rw [x1, x2]
  simp only [ob, uc4, uc3]
  unfold U3 W3
  obtain ⟨r', ⟨p', hp', -, -, y3, y4⟩ | ⟨c1, h5, hc0, y3, y4⟩⟩ := name_fine H P2 hN errorAt
  case inr =>
    have hc := nIc h5 hc0
    rw [y3, y4]
    simp only [ob, uc3]
    rw [U4_err hu H P2 hc, W4_err H P2 hc]
    simp only [uc6]
    rw [hJ s2 e2 k2 _ _ hc]
    exact ⟨_, _, _, _, _, _, _, _, _, _, _, _, _, _, _, _, rfl, rfl, SIM.err P2 h5 hc0, fun q => absurd q hc, hF0⟩
  rw [y3, y4]
  simp only [ob, uc3]
  have hbad : ∀ r29 r41, ∃ fp' pu' sp' uc' uY' code' errS' kind' start' stop' value' next' begins' token' errorAt' fam',
      U5 bs (nI L) am fp lA letters (nI n) pu sp uY (nI u) r29 r41 5 (nI s2) (nI k2) (nI s2) (nI e2) v2 = some (fp', pu', sp', uc', uY', code', errS', kind', start', stop', value') ∧
      ob (p10_readUnion_J69 bf fam (nI L) r29 r41 (nI e2) (nI s2) (nI k2) 5 (nI s2)) (uc6 fun b2 e2 a2 f2 n2 t2 => p10_readClause_J39 bf (nI L) n2 b2 t2 e2 a2 f2) = some (begins', code', errorAt', fam', next', token') ∧
      SIM B L e kind' start' stop' value' code' errS' next' begins' token' code' errorAt' ∧ (code' = 0 → DD (nI n) uc' lA letters py pu' fp' sp' uY' fam') ∧ FXW (nI n) uc' pu' fp' sp' := by
    intro r29 r41
    rw [U5_err H P2 h50, W5_err H P2 h50]
    simp only [ob, uc6]
    rw [hJ s2 e2 k2 _ _ h50]
    exact ⟨_, _, _, _, _, _, _, _, _, _, _, _, _, _, _, _, rfl, rfl, SIM.err P2 (c := 5) (by omega) (by omega), fun q => absurd q h50, hF0⟩
  unfold U4 W4 p8_checkPair p8_checkPair_J18
  rw [fail0, checkF0, checkT]
  simp only [lb_eq, uc2, if_true]
  by_cases c3 : p = p'
  · rw [if_pos (show nI p = nI p' by rw [c3]), if_pos (show nI p = nI p' by rw [c3])]
    simp only [ob]
    exact hbad (nI p) (nI p')
  have c3' : ¬ nI p = nI p' := fun z => c3 ((nI_eq (by omega) (by omega)).mp z)
  rw [if_neg c3', if_neg c3', X1_pair W F (by omega) (by omega), M_pair W FM (by omega) (by omega)]
  simp only [ob]
  by_cases c4 : upair a b p p' u 0 < 12
  · have hne : ¬ oN (upair a b p p' u 0) = -1 := by rw [oN_in c4]; exact nI_m1 (by omega)
    rw [if_neg hne, if_neg hne]
    exact hbad (nI p) (nI p')
  have hpm : oN (upair a b p p' u 0) = -1 := oN_out c4
  rw [if_pos hpm, if_pos hpm]
  simp only [uc2]
  obtain ⟨s3, e3, k3, v3, x3, x4, P3, V3, l3, l3'⟩ := adv_fine H P2 (nI k2) (nI s2) v2 (nI s2) (nI k2)
  obtain ⟨r4, r5, kd4, st4, sp4, va4, co4, es4, nx4, bg4, tk4, ea4, t1, t2, S4, hrr⟩ := year_fine H P3 V3 errorAt
  unfold U5 p10_readUnion_J69
  rw [x3, x4]
  simp only [ob, uc4, uc3]
  rw [t1, t2]
  simp only [uc7, uc6]
  rcases S4.cases with ⟨s4, e4, k4, P4, rfl, rfl, rfl, rfl, rfl, rfl, rfl, -, V4, rfl, l4, l4'⟩ | ⟨s4, e4, k4, c4, P4, rfl, rfl, rfl, rfl, rfl, rfl, rfl, -, h5, hc0, rfl⟩
  case inr =>
    have hc := nIc h5 hc0
    rw [U7_err hc, if_neg hc]
    simp only []
    rw [hJ s4 e4 k4 _ _ hc]
    exact ⟨_, _, _, _, _, _, _, _, _, _, _, _, _, _, _, _, rfl, rfl, SIM.err P4 h5 hc0, fun q => absurd q hc, hF0⟩
  have hr45 := hrr rfl
  subst hr45
  unfold U7 p3_isFine p1_addUnion
  simp only [if_true, cond_true, lb_eq, uc5]
  rw [put_in cu (by omega), put_in cu (by omega), put_in cu (by omega), M_addUnion FM cu (by omega) (by omega)]
  simp only []
  generalize hf1 : vp_updL (vp_updL (vp_updL (vp_updL fam (66 + 3 * u) (lN p)) (66 + 3 * u + 1) (lN p')) (66 + 3 * u + 2) r4.toInt64) 1 (lN (u + 1)) = fam1
  have hM := marry_wf W AN cu hp hp' c3
  have hf : ∀ k, k ≠ 1 → (k < 66 + 3 * u ∨ 66 + 3 * u + 3 ≤ k) → fam1 k = fam k := fun k h1 h2 => by
    rw [← hf1, updL_ne h1, updL_ne (by omega), updL_ne (by omega), updL_ne (by omega)]
  have FX' : FX n (u + 1) pr (updN a u p) (updN b u p') pu (upd fp u (nI p)) (upd sp u (nI p')) := by
    refine ⟨F.1, fun w hw => ?_⟩
    unfold updN
    by_cases q : w = u
    · rw [q, upd_eq, upd_eq, if_pos rfl, if_pos rfl]; exact ⟨rfl, rfl⟩
    · rw [upd_ne q, upd_ne q, if_neg q, if_neg q]; exact F.2 w (by omega)
  have FM' : MX n (u + 1) pr (updN a u p) (updN b u p') fam1 := by
    refine ⟨by rw [hf 0 (by omega) (by omega)]; exact FM.1, by rw [← hf1, updL_eq], fun x hx => by rw [hf _ (by omega) (by omega)]; exact FM.2.2.1 x hx, fun w hw => ?_⟩
    unfold updN
    by_cases q : w = u
    · rw [if_pos q, if_pos q, ← hf1, q]
      exact ⟨by rw [updL_ne (by omega), updL_ne (by omega), updL_ne (by omega), updL_eq], by rw [updL_ne (by omega), updL_ne (by omega), updL_eq]⟩
    · rw [if_neg q, if_neg q, hf _ (by omega) (by omega), hf _ (by omega) (by omega)]; exact FM.2.2.2 w (by omega)
  have hUy' : ∀ w, w < u + 1 → fam1 (66 + 3 * w + 2) = (upd uy u r4 w).toInt64 := fun w hw => by
    by_cases q : w = u
    · rw [q, upd_eq, ← hf1, updL_ne (by omega), updL_eq]
    · rw [upd_ne q, hf _ (by omega) (by omega)]; exact hUy w (by omega)
  have hY' : ∀ w, w < u + 1 → upd uY u r4 w = upd uy u r4 w := fun w hw => by
    by_cases q : w = u
    · rw [q, upd_eq, upd_eq]
    · rw [upd_ne q, upd_ne q]; exact hY w (by omega)
  have I : CHI n u (updN a u p) (updN b u p') lc lt yr (upd uy u r4) am pu (upd fp u (nI p)) (upd sp u (nI p')) fam1 := by
    refine ⟨pr, g, an, hM.1, hM.2, FX', FM', ?_, ?_, PMf.congr2 fun x hx => ⟨hf _ (by omega) (by omega), hf _ (by omega) (by omega), hf _ (by omega) (by omega)⟩, hUy'⟩
    · have : updN a u p u = p := if_pos rfl
      rw [this]; exact HA p hp
    · have : updN b u p' u = p' := if_pos rfl
      rw [this]; exact HA p' hp'
  obtain ⟨pu5, kd5, st5, sp5, va5, co5, es5, nx5, bg5, tk5, ea5, fam5, z1, z2, S5, I5, ⟨prX, gX, anX, WX, ANX, FX5⟩⟩ := children_ok (e0 := e3) H hC hX.1 hX.2.1 cu 800 0 s4 e4 k4 va4 ea4 pu fam1 FU FU (by omega) (by decide) (by decide) P4 (by omega) (fun q => by have := l4' q; omega) V4 (fun q => by have := l4' q; omega) I
  have hF1 : FXW (nI n) (nI (u + 1)) pu5 (upd fp u (nI p)) (upd sp u (nI p')) := ⟨n, u + 1, prX, _, _, gX, anX, rfl, rfl, WX, ANX, FX5⟩
  rw [n0] at z1 z2 ⊢
  rw [z1, z2]
  unfold p8_readUnion_J130 p10_readUnion_J125
  simp only [ob, uc7, uc6]
  rcases S5.cases with ⟨s6, e6, k6, P6, rfl, rfl, rfl, rfl, rfl, rfl, rfl, -, V6, rfl, l6, l6'⟩ | ⟨s6, e6, k6, c6, P6, rfl, rfl, rfl, rfl, rfl, rfl, rfl, -, h5, hc0, rfl⟩
  · obtain ⟨kd7, st7, sp7, va7, co7, es7, nx7, bg7, tk7, ea7, w1, w2, S7⟩ := semi_fine H P6 V6 ea5
    rw [w1]
    unfold p10_readClause_J39
    rw [w2]
    simp only [uc6, uc5, ob]
    obtain ⟨pr5, g5, an5, W5, AN5, F5, FM5, -, -, PM5, hUy5⟩ := I5 rfl
    rw [n1, nI_add]
    exact ⟨_, _, _, _, _, _, _, _, _, _, _, _, _, _, _, _, rfl, rfl, S7.mono (by omega), fun _ => ⟨n, u + 1, pr5, updN a u p, updN b u p', g5, an5, lc, lt, yr, upd uy u r4, rfl, rfl, W5, AN5, hC, hX, F5, hY', FM5, PM5, hUy5⟩, hF1⟩
  · have hc := nIc h5 hc0
    have hs := semi_err (bs := bs) (bf := bf) (L := L) (k2 := nI k6) (s2 := nI s6) (e2 := nI e6) hc (nI k6) (nI s6) (nI e6) va5 ea5 ea5 59
    rw [hs.1]
    unfold p10_readClause_J39
    rw [hs.2]
    simp only [uc6, uc5, ob]
    exact ⟨_, _, _, _, _, _, _, _, _, _, _, _, _, _, _, _, rfl, rfl, SIM.err P6 h5 hc0, fun q => absurd q hc, by rw [n1, nI_add]; exact hF1⟩
end RUNI
