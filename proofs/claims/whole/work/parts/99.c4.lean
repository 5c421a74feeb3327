/-! both readers side by side -/
def SIM (B : Nat → Nat) (L lo : Nat) (kind start stop value code errS next begins token error errorAt : Int32) : Prop :=
  ∃ s e k c, PT B L s e k ∧ kind = nI k ∧ start = nI s ∧ stop = nI e ∧ next = nI e ∧ begins = nI s ∧ token = nI k ∧ code = nI c ∧ error = nI c ∧ c ≤ 5 ∧
    (c = 0 → VAL B s e k value ∧ errS = -1 ∧ lo ≤ e ∧ (k ≠ 0 → lo < e)) ∧ (c ≠ 0 → errorAt = errS)
theorem nIc {c : Nat} (h : c ≤ 5) (h0 : c ≠ 0) : ¬ nI c = 0 := fun q => h0 ((nI_eq (a := c) (b := 0) (by omega) (by omega)).mp q)
section SIMU
variable {B : Nat → Nat} {L lo : Nat} {bs bf : Nat → Int32} {n : Nat} {lc : Nat → Nat} {lt : Nat → Nat → Nat} {lA letters : Nat → Int32} {fam : Nat → Int64} {s e k c : Nat} {kind start stop value code errS next begins token error errorAt : Int32}
theorem SIM.mono {lo' : Nat} (h : SIM B L lo kind start stop value code errS next begins token error errorAt) (hl : lo' ≤ lo) : SIM B L lo' kind start stop value code errS next begins token error errorAt := by
  obtain ⟨s, e, k, c, h1, h2, h3, h4, h5, h6, h7, h8, h9, h10, h11, h12⟩ := h
  exact ⟨s, e, k, c, h1, h2, h3, h4, h5, h6, h7, h8, h9, h10, fun q => ⟨(h11 q).1, (h11 q).2.1, by have := (h11 q).2.2.1; omega, fun z => by have := (h11 q).2.2.2 z; omega⟩, h12⟩
theorem SIM.fine (P : PT B L s e k) {v : Int32} (V : VAL B s e k v) (h1 : lo ≤ e) (h2 : k ≠ 0 → lo < e) : SIM B L lo (nI k) (nI s) (nI e) v 0 (-1) (nI e) (nI s) (nI k) 0 errorAt :=
  ⟨s, e, k, 0, P, rfl, rfl, rfl, rfl, rfl, rfl, rfl, rfl, Nat.zero_le _, fun _ => ⟨V, rfl, h1, h2⟩, fun q => absurd rfl q⟩
theorem SIM.err (P : PT B L s e k) {v : Int32} (hc : c ≤ 5) (h0 : c ≠ 0) : SIM B L lo (nI k) (nI s) (nI e) v (nI c) errS (nI e) (nI s) (nI k) (nI c) errS :=
  ⟨s, e, k, c, P, rfl, rfl, rfl, rfl, rfl, rfl, rfl, rfl, hc, fun q => absurd q h0, fun _ => rfl⟩
theorem SIM.cases (h : SIM B L lo kind start stop value code errS next begins token error errorAt) :
    (∃ s e k, PT B L s e k ∧ kind = nI k ∧ start = nI s ∧ stop = nI e ∧ next = nI e ∧ begins = nI s ∧ token = nI k ∧ code = 0 ∧ error = 0 ∧ VAL B s e k value ∧ errS = -1 ∧ lo ≤ e ∧ (k ≠ 0 → lo < e)) ∨
    (∃ s e k c, PT B L s e k ∧ kind = nI k ∧ start = nI s ∧ stop = nI e ∧ next = nI e ∧ begins = nI s ∧ token = nI k ∧ code = nI c ∧ error = nI c ∧ c ≤ 5 ∧ c ≠ 0 ∧ errorAt = errS) := by
  obtain ⟨s, e, k, c, h1, h2, h3, h4, h5, h6, h7, h8, h9, h10, h11, h12⟩ := h
  by_cases q : c = 0
  · subst q
    exact Or.inl ⟨s, e, k, h1, h2, h3, h4, h5, h6, h7, h8, h9, h11 rfl⟩
  · exact Or.inr ⟨s, e, k, c, h1, h2, h3, h4, h5, h6, h7, h8, h9, h10, q, h12 q⟩
theorem X_advE {i_length kind start stop value code : Int32} (h : ¬ code = 0) : p3_advance i_length kind start stop value code bs = some (kind, start, stop, value) := by
  unfold p3_advance p3_isFine
  rw [if_neg h]
  rfl
theorem M_advE {limit next begins token error : Int32} (h : ¬ error = 0) : p10_advance limit next begins token error bf = some (begins, next, token) := by
  unfold p10_advance
  rw [if_neg h]
theorem adv_fine (H : BUF B L bs bf) (P : PT B L s e k) (kind start value begins token : Int32) :
    ∃ s' e' k' v, p3_advance (nI L) kind start (nI e) value 0 bs = some (nI k', nI s', nI e', v) ∧ p10_advance (nI L) (nI e) begins token 0 bf = some (nI s', nI e', nI k') ∧ PT B L s' e' k' ∧ VAL B s' e' k' v ∧ e ≤ e' ∧ (k' ≠ 0 → e < e') := by
  have he : e ≤ L := P.2.1
  obtain ⟨v, e1, V⟩ := X3_advance H he kind start value
  obtain ⟨P', h1⟩ := tok_PT (B := B) he
  refine ⟨_, _, _, v, e1, ?_, P', V, ?_, h1⟩
  · unfold p10_advance
    rw [if_pos rfl, M_scan H he]
    rfl
  · have := (tS_le (B := B) he).1
    have := P'.1
    omega
theorem fail0 {start errS v : Int32} : p3_fail start 0 errS v = (v, start) := by unfold p3_fail; rw [if_pos rfl]
theorem failE {start code errS v : Int32} (h : ¬ code = 0) : p3_fail start code errS v = (code, errS) := by unfold p3_fail; rw [if_neg h]
theorem checkT {begins error errorAt v : Int32} : p10_check begins error errorAt true v = (error, errorAt) := rfl
theorem checkF0 {begins errorAt v : Int32} : p10_check begins 0 errorAt false v = (v, begins) := by
  unfold p10_check p10_flaw
  rw [if_pos rfl]
  rfl
theorem checkFE {begins error errorAt v : Int32} (h : ¬ error = 0) : p10_check begins error errorAt false v = (error, errorAt) := by
  unfold p10_check p10_flaw
  rw [if_neg h]
  rfl
theorem checkE {begins error errorAt v : Int32} {b : Bool} (h : ¬ error = 0) : p10_check begins error errorAt b v = (error, errorAt) := by
  cases b with
  | true => exact checkT
  | false => exact checkFE h
theorem year_err (H : BUF B L bs bf) (P : PT B L s e k) (hc : ¬ code = 0) (kind start stop value errS errorAt : Int32) :
    p8_readYear (nI L) kind start stop value code errS bs = some (value, code, errS, kind, start, stop, value) ∧ p10_readNumber (nI L) (nI e) (nI s) (nI k) code errorAt bf 0 2100 = some (0, nI s, code, errorAt, nI e, nI k) := by
  constructor
  · unfold p8_readYear p8_readYear_J45
    rw [failE hc, failE hc]
    simp only [lb_eq, uc2]
    rw [X_advE hc]
    simp only [ob, uc4]
    split
    · split <;> rfl
    · rfl
  · unfold p10_readNumber p10_readNumber_J25 p10_readNumber_J59
    rw [if_neg hc, checkE hc]
    simp only [lb_eq, uc2]
    rw [M_value H P]
    simp only [ob]
    rw [if_neg hc, checkE hc]
    simp only []
    rw [M_advE hc]
    simp only [uc3]
    rw [if_neg hc]
theorem year_fine (H : BUF B L bs bf) (P : PT B L s e k) (V : VAL B s e k value) (errorAt : Int32) :
    ∃ r r2 kind' start' stop' value' code' errS' next' begins' token' errorAt', p8_readYear (nI L) (nI k) (nI s) (nI e) value 0 (-1) bs = some (r, code', errS', kind', start', stop', value') ∧
      p10_readNumber (nI L) (nI e) (nI s) (nI k) 0 errorAt bf 0 2100 = some (r2, begins', code', errorAt', next', token') ∧ SIM B L e kind' start' stop' value' code' errS' next' begins' token' code' errorAt' ∧ (code' = 0 → r = r2) := by
  have hL := H.1
  have hk : k < 4 := P.2.2.1
  have h10 : ¬ (1 : Int32) = 0 := by decide
  have h20 : ¬ (2 : Int32) = 0 := by decide
  by_cases c2 : k = 2
  · subst c2
    have hv := V.1 rfl
    subst hv
    by_cases c3 : nmr B s (e - s) ≤ 2100
    · have m1 : min 1000000 (nmr B s (e - s)) = nmr B s (e - s) := by omega
      have m2 : min 2000000000 (nmr B s (e - s)) = nmr B s (e - s) := by omega
      obtain ⟨s', e', k', v', a1, a2, P', V', l1, l2⟩ := adv_fine H P (nI 2) (nI s) (nI (nmr B s (e - s))) (nI s) (nI 2)
      refine ⟨nI (nmr B s (e - s)), nI (nmr B s (e - s)), _, _, _, _, 0, -1, _, _, _, errorAt, ?_, ?_, SIM.fine P' V' l1 l2, fun _ => rfl⟩
      · unfold p8_readYear p8_readYear_J45
        rw [m1, n2, if_pos rfl, if_pos (show nI (nmr B s (e - s)) ≤ 2100 from nI_le (b := 2100) c3 (by omega)), a1]
        rfl
      · unfold p10_readNumber p10_readNumber_J25 p10_readNumber_J59
        rw [if_pos rfl, n2, if_pos rfl, checkT]
        simp only [lb_eq, uc2]
        rw [M_value H P, if_pos rfl, m2]
        simp only [ob]
        rw [if_pos trivial, show p10_inRange (nI (nmr B s (e - s))).toInt64 (0 : Int32).toInt64 (2100 : Int32).toInt64 = true by
          rw [inR, if_neg (show ¬ nI (nmr B s (e - s)) < 0 from nI_pos (by omega)), if_pos (show nI (nmr B s (e - s)) ≤ 2100 from nI_le (b := 2100) c3 (by omega))], cond_true, checkT]
        simp only []
        rw [a2]
        simp only [uc3]
        rw [if_pos trivial]
    · refine ⟨nI (min 1000000 (nmr B s (e - s))), 0, nI 2, nI s, nI e, nI (min 1000000 (nmr B s (e - s))), 2, nI s, nI e, nI s, nI 2, nI s, ?_, ?_, SIM.err P (c := 2) (by omega) (by omega), fun q => absurd q h20⟩
      · unfold p8_readYear p8_readYear_J45
        rw [if_pos n2.symm, if_neg (show ¬ nI (min 1000000 (nmr B s (e - s))) ≤ 2100 from nI_ge (a := 2100) (by omega) (by omega)), fail0]
        simp only [lb_eq, uc2]
        rw [X_advE h20]
        rfl
      · unfold p10_readNumber p10_readNumber_J25 p10_readNumber_J59
        rw [if_pos rfl, if_pos n2.symm, checkT]
        simp only [lb_eq, uc2]
        rw [M_value H P, if_pos rfl]
        simp only [ob]
        rw [if_pos trivial, show p10_inRange (nI (min 2000000000 (nmr B s (e - s)))).toInt64 (0 : Int32).toInt64 (2100 : Int32).toInt64 = false by
          rw [inR, if_neg (show ¬ nI (min 2000000000 (nmr B s (e - s))) < 0 from nI_pos (by omega)), if_neg (show ¬ nI (min 2000000000 (nmr B s (e - s))) ≤ 2100 from nI_ge (a := 2100) (by omega) (by omega))], cond_false, checkF0]
        simp only []
        rw [M_advE h20]
        simp only [uc3]
        rw [if_neg h20]
  · have c2' : ¬ nI k = 2 := fun q => c2 ((nI_eq (a := k) (b := 2) (by omega) (by omega)).mp q)
    refine ⟨value, 0, nI k, nI s, nI e, value, 1, nI s, nI e, nI s, nI k, nI s, ?_, ?_, SIM.err P (c := 1) (by omega) (by omega), fun q => absurd q h10⟩
    · unfold p8_readYear p8_readYear_J45
      rw [if_neg c2', fail0]
      simp only [lb_eq, uc2]
      rw [X_advE h10]
      rfl
    · unfold p10_readNumber p10_readNumber_J25 p10_readNumber_J59
      rw [if_pos rfl, if_neg c2', checkF0]
      simp only [lb_eq, uc2]
      rw [M_value H P]
      simp only [ob]
      rw [if_neg h10, checkT]
      simp only []
      rw [M_advE h10]
      simp only [uc3]
      rw [if_neg h10]
theorem semi_err {k2 s2 e2 : Int32} (hc : ¬ code = 0) (kind start stop value errS errorAt v : Int32) :
    p8_readSemicolon (nI L) kind start stop value code errS bs = some (code, errS, kind, start, stop, value) ∧ p10_expect (nI L) e2 s2 k2 code errorAt bf v = some (s2, code, errorAt, e2, k2) := by
  constructor
  · unfold p8_readSemicolon p8_readSemicolon_J20
    rw [failE hc, X_advE hc]
    cases p3_isSign kind value 59 with
    | true => rfl
    | false =>
      rw [cond_false]
      simp only [lb_eq, uc2]
      rw [X_advE hc]
      rfl
  · unfold p10_expect p10_isSymbol
    rw [if_neg hc]
    simp only [ob, lb_eq]
    rw [checkE hc]
    simp only [uc2]
    rw [M_advE hc]
    rfl
theorem sign_ok (H : BUF B L bs bf) (P : PT B L s e k) (V : VAL B s e k value) {v : Nat} (hv : v < 256) : ∃ r, p3_isSign (nI k) value (nI v) = r ∧ p10_isSymbol (nI s) (nI k) 0 bf (nI v) = some r := by
  have hL := H.1
  have hk : k < 4 := P.2.2.1
  unfold p3_isSign p10_isSymbol
  rw [if_pos rfl]
  by_cases c3 : k = 3
  · subst c3
    have hsl : s < L := by have := P.2.2.2.1 (by omega); have := P.2.1; omega
    have hb := H.2 s hsl
    have hval := V.2 rfl
    subst hval
    rw [n3, if_pos rfl, if_pos rfl, gd_in (by omega) (by omega), nI_clamp (by omega), hb.2.2]
    by_cases c : B s = v
    · rw [c, if_pos rfl, if_pos rfl]
      exact ⟨true, rfl, rfl⟩
    · have c' : ¬ nI (B s) = nI v := fun q => c ((nI_eq (by omega) (by omega)).mp q)
      rw [if_neg c', if_neg c']
      exact ⟨false, rfl, rfl⟩
  · have c3' : ¬ nI k = 3 := fun q => c3 ((nI_eq (a := k) (b := 3) (by omega) (by omega)).mp q)
    rw [if_neg c3', if_neg c3']
    exact ⟨false, rfl, rfl⟩
theorem semi_fine (H : BUF B L bs bf) (P : PT B L s e k) (V : VAL B s e k value) (errorAt : Int32) :
    ∃ kind' start' stop' value' code' errS' next' begins' token' errorAt', p8_readSemicolon (nI L) (nI k) (nI s) (nI e) value 0 (-1) bs = some (code', errS', kind', start', stop', value') ∧
      p10_expect (nI L) (nI e) (nI s) (nI k) 0 errorAt bf 59 = some (begins', code', errorAt', next', token') ∧ SIM B L e kind' start' stop' value' code' errS' next' begins' token' code' errorAt' := by
  have h10 : ¬ (1 : Int32) = 0 := by decide
  obtain ⟨r, q1, q2⟩ := sign_ok H P V (v := 59) (by omega)
  unfold p8_readSemicolon p10_expect
  rw [show (59 : Int32) = nI 59 from rfl, q1, q2]
  simp only [ob, lb_eq]
  cases r with
  | true =>
    obtain ⟨s', e', k', v', a1, a2, P', V', l1, l2⟩ := adv_fine H P (nI k) (nI s) value (nI s) (nI k)
    refine ⟨_, _, _, _, 0, -1, _, _, _, errorAt, ?_, ?_, SIM.fine P' V' l1 l2⟩
    · rw [cond_true]
      unfold p8_readSemicolon_J20
      rw [a1]
      rfl
    · rw [checkT]
      simp only [uc2]
      rw [a2]
      rfl
  | false =>
    refine ⟨nI k, nI s, nI e, value, 1, nI s, nI e, nI s, nI k, nI s, ?_, ?_, SIM.err P (c := 1) (by omega) (by omega)⟩
    · rw [cond_false, fail0]
      simp only [uc2]
      unfold p8_readSemicolon_J20
      rw [X_advE h10]
      rfl
    · rw [checkF0]
      simp only [uc2]
      rw [M_advE h10]
      rfl
/-- what both keep of the names -/
def NMS (n : Nat) (lc : Nat → Nat) (lt : Nat → Nat → Nat) (lA letters : Nat → Int32) (fam : Nat → Int64) : Prop := n ≤ 16 ∧ PC n lc lt ∧ LCX n lc lA ∧ LTX n lc lt letters ∧ fam 0 = lN n ∧ NMM n lc lt fam
theorem name_err (H : BUF B L bs bf) (P : PT B L s e k) (N : NMS n lc lt lA letters fam) (hc : ¬ code = 0) (errS errorAt : Int32) :
    (∃ r, p8_checkedPerson (nI k) (nI s) (nI e) code errS (nI n) lA letters bs = some (r, code, errS)) ∧ p10_readName (nI e) (nI s) (nI k) code errorAt bf fam = some (-1, code, errorAt) := by
  obtain ⟨hn, hC, C, T, h0, NM⟩ := N
  have hk : k < 4 := P.2.2.1
  constructor
  · unfold p8_checkedPerson
    rw [failE hc, failE hc]
    by_cases c1 : k = 1
    · subst c1
      obtain ⟨r, e1, -, -⟩ := named_ok H P hn C T hC.1 hC.2 h0 NM
      rw [n1, if_pos rfl, e1]
      simp only [ob, lb_eq, uc2]
      split
      · exact ⟨r, rfl⟩
      · exact ⟨r, rfl⟩
    · rw [if_neg (show ¬ nI k = 1 from fun q => c1 ((nI_eq (a := k) (b := 1) (by omega) (by omega)).mp q))]
      exact ⟨-1, rfl⟩
  · unfold p10_readName p10_readName_J25 p10_readName_J41
    rw [if_neg hc, checkE hc]
    simp only [lb_eq, uc2]
    rw [if_neg hc, if_neg hc, checkE hc]
theorem name_fine (H : BUF B L bs bf) (P : PT B L s e k) (N : NMS n lc lt lA letters fam) (errorAt : Int32) :
    ∃ r, (∃ p, p < n ∧ r = nI p ∧ k = 1 ∧ p8_checkedPerson (nI k) (nI s) (nI e) 0 (-1) (nI n) lA letters bs = some (nI p, 0, -1) ∧ p10_readName (nI e) (nI s) (nI k) 0 errorAt bf fam = some (nI p, 0, errorAt)) ∨
      (∃ c, c ≤ 5 ∧ c ≠ 0 ∧ p8_checkedPerson (nI k) (nI s) (nI e) 0 (-1) (nI n) lA letters bs = some (r, nI c, nI s) ∧ p10_readName (nI e) (nI s) (nI k) 0 errorAt bf fam = some (-1, nI c, nI s)) := by
  obtain ⟨hn, hC, C, T, h0, NM⟩ := N
  have hk : k < 4 := P.2.2.1
  have h10 : ¬ (1 : Int32) = 0 := by decide
  unfold p8_checkedPerson p10_readName
  rw [if_pos rfl]
  by_cases c1 : k = 1
  · subst c1
    obtain ⟨r, e1, e2, h⟩ := named_ok H P hn C T hC.1 hC.2 h0 NM
    rw [if_pos n1.symm, if_pos n1.symm, e1, checkT]
    simp only [ob, lb_eq, uc2]
    unfold p10_readName_J25
    rw [if_pos rfl, e2]
    simp only [ob]
    unfold p10_readName_J41
    rw [if_pos rfl]
    rcases h with ⟨p, hp, rfl⟩ | rfl
    · refine ⟨nI p, Or.inl ⟨p, hp, rfl, trivial, ?_, ?_⟩⟩
      · rw [if_neg (nI_m1 (by omega))]
      · rw [if_neg (nI_m1 (by omega)), checkT]
        rfl
    · refine ⟨-1, Or.inr ⟨4, by omega, by omega, ?_, ?_⟩⟩
      · rw [if_pos rfl, fail0]; rfl
      · rw [if_pos rfl, checkF0]; rfl
  · have c1' : ¬ nI k = 1 := fun q => c1 ((nI_eq (a := k) (b := 1) (by omega) (by omega)).mp q)
    refine ⟨-1, Or.inr ⟨1, by omega, by omega, ?_, ?_⟩⟩
    · rw [if_neg c1', fail0]; rfl
    · rw [if_neg c1', checkF0]
      simp only [lb_eq, uc2]
      unfold p10_readName_J25 p10_readName_J41
      rw [if_neg h10, if_neg h10, checkT]
      rfl
end SIMU
