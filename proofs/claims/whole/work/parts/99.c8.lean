/-! the loop over the clauses -/
section RLOAD
variable {B : Nat → Nat} {L lo : Nat} {bs bf : Nat → Int32} {n u : Nat} {pr a b g lc : Nat → Nat} {an : Nat → Nat → Bool} {lt : Nat → Nat → Nat} {yr uy lA letters py pu fp sp uY am ge lv rf : Nat → Int32} {fam : Nat → Int64} {s e k c : Nat} {kind start stop value code errS next begins token error errorAt pc uc rc : Int32}
/-- a family read so far, refreshed -/
def DR (pc uc : Int32) (lA letters py pu fp sp uY am : Nat → Int32) (fam : Nat → Int64) : Prop :=
  ∃ (n u : Nat) (pr a b g : Nat → Nat) (an : Nat → Nat → Bool) (lc : Nat → Nat) (lt : Nat → Nat → Nat) (yr uy : Nat → Int32), pc = nI n ∧ uc = nI u ∧ WF n u pr a b g ∧ ANC n pr a b an ∧ PC n lc lt ∧ PX n lc lt yr lA letters py ∧ FX n u pr a b pu fp sp ∧ (∀ w, w < u → uY w = uy w) ∧ MX n u pr a b fam ∧ PM n lc lt yr fam ∧ (∀ w, w < u → fam (66 + 3 * w + 2) = (uy w).toInt64) ∧ AMK n an am
theorem DR.dd (D : DR pc uc lA letters py pu fp sp uY am fam) : DD pc uc lA letters py pu fp sp uY fam := by
  obtain ⟨n, u, pr, a, b, g, an, lc, lt, yr, uy, h1, h2, W, AN, hC, hX, F, hY, FM, PMf, hUy, -⟩ := D
  exact ⟨n, u, pr, a, b, g, an, lc, lt, yr, uy, h1, h2, W, AN, hC, hX, F, hY, FM, PMf, hUy⟩
theorem refresh_some (X : FXW pc uc pu fp sp) : ∃ am' ge' lv' rf' rc', p1_refresh pc uc am fp ge lv pu rf sp = some (am', ge', lv', rf', rc') := by
  obtain ⟨n, u, pr, a, b, g, an, rfl, rfl, W, AN, F⟩ := X
  obtain ⟨am', ge', lv', rf', e1, -⟩ := X1_refresh (am := am) (ge := ge) (lv := lv) (rf := rf) W AN F
  exact ⟨am', ge', lv', rf', _, e1⟩
theorem refresh_DD (D : DD pc uc lA letters py pu fp sp uY fam) : ∃ am' ge' lv' rf' rc', p1_refresh pc uc am fp ge lv pu rf sp = some (am', ge', lv', rf', rc') ∧ DR pc uc lA letters py pu fp sp uY am' fam := by
  obtain ⟨n, u, pr, a, b, g, an, lc, lt, yr, uy, rfl, rfl, W, AN, hC, hX, F, hY, FM, PMf, hUy⟩ := D
  obtain ⟨am', ge', lv', rf', e1, R⟩ := X1_refresh (am := am) (ge := ge) (lv := lv) (rf := rf) W AN F
  exact ⟨am', ge', lv', rf', _, e1, n, u, pr, a, b, g, an, lc, lt, yr, uy, rfl, rfl, W, AN, hC, hX, F, hY, FM, PMf, hUy, fun p hp => (R.1 p hp).2⟩
/-- what the loop leaves -/
def LOUT (pc uc : Int32) (lA letters py pu fp sp uY : Nat → Int32) (fam : Nat → Int64) (code errS error errorAt : Int32) : Prop :=
  (code = 0 ∧ error = 0 ∧ errS = -1 ∧ DD pc uc lA letters py pu fp sp uY fam) ∨ ∃ c, c ≤ 5 ∧ c ≠ 0 ∧ code = nI c ∧ error = nI c ∧ errorAt = errS
theorem load_loop (H : BUF B L bs bf) :
    ∀ m j s e k (value errorAt : Int32) (pc uc rc : Int32) (lA letters py pu fp sp uY am ge lv rf : Nat → Int32) (fam : Nat → Int64) (fC fM : Nat), m + j = 800 → m + 1 < fC → m + 1 < fM → PT B L s e k → VAL B s e k value → (k ≠ 0 → j < e) → DR pc uc lA letters py pu fp sp uY am fam →
      ∃ am' fp' ge' lA' letters' lv' pu' pc' py' rf' rc' sp' uc' uY' code' errS' kind' start' stop' value' begins' fam' error' errorAt' next' token',
        p8_read_L17 bs (nI L) fC (nI j) am fp ge lA letters lv pu pc py rf rc sp uc uY 0 (-1) (nI k) (nI s) (nI e) value = some (am', fp', ge', lA', letters', lv', pu', pc', py', rf', rc', sp', uc', uY', code', errS', kind', start', stop', value') ∧
        p10_load_L60 bf (nI L) fM (nI s) fam 0 errorAt (nI e) (nI k) = some (begins', fam', error', errorAt', next', token') ∧
        LOUT pc' uc' lA' letters' py' pu' fp' sp' uY' fam' code' errS' error' errorAt' := by
  have hL := H.1
  intro m
  induction m with
  | zero =>
    intro j s e k value errorAt pc uc rc lA letters py pu fp sp uY am ge lv rf fam fC fM hm hf1 hf2 P V hj D
    obtain ⟨f1, rfl⟩ : ∃ q, fC = q + 1 := ⟨fC - 1, by omega⟩
    obtain ⟨f2, rfl⟩ : ∃ q, fM = q + 1 := ⟨fM - 1, by omega⟩
    have hk : k = 0 := Classical.byContradiction fun q => by have := hj q; have := P.2.1; omega
    refine ⟨am, fp, ge, lA, letters, lv, pu, pc, py, rf, rc, sp, uc, uY, 0, -1, nI k, nI s, nI e, value, nI s, fam, 0, errorAt, nI e, nI k, ?_, ?_, Or.inl ⟨rfl, rfl, rfl, D.dd⟩⟩
    · rw [p8_read_L17, p8_read_L17_B, if_pos (show (800 : Int32) ≤ nI j from nI_le (a := 800) (by omega) (by omega))]
    · rw [p10_load_L60, p10_load_L60_B, if_pos rfl, if_pos (show nI k = 0 by rw [hk]; rfl)]
  | succ m ih =>
    intro j s e k value errorAt pc uc rc lA letters py pu fp sp uY am ge lv rf fam fC fM hm hf1 hf2 P V hj D
    obtain ⟨f1, rfl⟩ : ∃ q, fC = q + 1 := ⟨fC - 1, by omega⟩
    obtain ⟨f2, rfl⟩ : ∃ q, fM = q + 1 := ⟨fM - 1, by omega⟩
    have hk4 : k < 4 := P.2.2.1
    have h10 : ¬ (1 : Int32) = 0 := by decide
    rw [p8_read_L17, p8_read_L17_B, if_neg (show ¬ (800 : Int32) ≤ nI j from nI_ge (b := 800) (by omega) (by omega)), p10_load_L60, p10_load_L60_B, if_pos rfl]
    have hfine : p3_isFine 0 = true := by unfold p3_isFine; rw [if_pos rfl]
    rw [hfine, cond_true]
    by_cases ck : k = 0
    · have ck' : nI k = 0 := by rw [ck]; rfl
      rw [if_pos ck', if_pos ck']
      exact ⟨_, _, _, _, _, _, _, _, _, _, _, _, _, _, _, _, _, _, _, _, _, _, _, _, _, _, rfl, rfl, Or.inl ⟨rfl, rfl, rfl, D.dd⟩⟩
    have ck' : ¬ nI k = 0 := fun q => ck ((nI_eq (a := k) (b := 0) (by omega) (by omega)).mp q)
    have hje := hj ck
    rw [if_neg ck', if_neg ck']
    -- after a clause
    have hstop : ∀ (v : Int32) (am fp ge lA letters lv pu : Nat → Int32) (pc : Int32) (py rf : Nat → Int32) (rc : Int32) (sp : Nat → Int32) (uc : Int32) (uY : Nat → Int32) (c : Nat) (errS kind start stop value : Int32), c ≤ 5 → c ≠ 0 → p8_read_L17 bs (nI L) f1 v am fp ge lA letters lv pu pc py rf rc sp uc uY (nI c) errS kind start stop value = some (am, fp, ge, lA, letters, lv, pu, pc, py, rf, rc, sp, uc, uY, nI c, errS, kind, start, stop, value) := by
      intro v am fp ge lA letters lv pu pc py rf rc sp uc uY c errS kind start stop value h5 h0
      obtain ⟨g1, rfl⟩ : ∃ q, f1 = q + 1 := ⟨f1 - 1, by omega⟩
      have hnf : p3_isFine (nI c) = false := by unfold p3_isFine; rw [if_neg (nIc h5 h0)]
      rw [p8_read_L17, p8_read_L17_B, hnf]
      split <;> rfl
    have hstopM : ∀ (begins : Int32) (fam : Nat → Int64) (c : Nat) (errorAt next token : Int32), c ≤ 5 → c ≠ 0 → p10_load_L60 bf (nI L) f2 begins fam (nI c) errorAt next token = some (begins, fam, nI c, errorAt, next, token) := by
      intro begins fam c errorAt next token h5 h0
      obtain ⟨g2, rfl⟩ : ∃ q, f2 = q + 1 := ⟨f2 - 1, by omega⟩
      rw [p10_load_L60, p10_load_L60_B, if_neg (nIc h5 h0)]
    have hnext : ∀ (pc' uc' : Int32) (lA' letters' py' pu' fp' sp' uY' : Nat → Int32) (fam' : Nat → Int64) (kind' start' stop' value' code' errS' next' begins' token' errorAt' : Int32),
        SIM B L e kind' start' stop' value' code' errS' next' begins' token' code' errorAt' → (code' = 0 → DD pc' uc' lA' letters' py' pu' fp' sp' uY' fam') → FXW pc' uc' pu' fp' sp' →
        ∃ am2 fp2 ge2 lA2 letters2 lv2 pu2 pc2 py2 rf2 rc2 sp2 uc2' uY2 code2 errS2 kind2 start2 stop2 value2 begins2 fam2 error2 errorAt2 next2 token2,
          p8_read_J90 am ge lv rf (p8_read_L17 bs (nI L) f1) (nI j) kind' start' stop' value' code' errS' pc' uc' fp' lA' letters' pu' py' sp' uY' = some (am2, fp2, ge2, lA2, letters2, lv2, pu2, pc2, py2, rf2, rc2, sp2, uc2', uY2, code2, errS2, kind2, start2, stop2, value2) ∧
          p10_load_L60 bf (nI L) f2 begins' fam' code' errorAt' next' token' = some (begins2, fam2, error2, errorAt2, next2, token2) ∧
          LOUT pc2 uc2' lA2 letters2 py2 pu2 fp2 sp2 uY2 fam2 code2 errS2 error2 errorAt2 := by
      intro pc' uc' lA' letters' py' pu' fp' sp' uY' fam' kind' start' stop' value' code' errS' next' begins' token' errorAt' S1 D1 X1
      unfold p8_read_J90
      rcases S1.cases with ⟨s2, e2, k2, P2, rfl, rfl, rfl, rfl, rfl, rfl, rfl, -, V2, rfl, l2, l2'⟩ | ⟨s2, e2, k2, c2, P2, rfl, rfl, rfl, rfl, rfl, rfl, rfl, -, h5, hc0, rfl⟩
      · obtain ⟨am1, ge1, lv1, rf1, rc1, e1, DR1⟩ := refresh_DD (am := am) (ge := ge) (lv := lv) (rf := rf) (D1 rfl)
        rw [e1]
        simp only [ob, uc5, lb_eq]
        rw [n1, nI_add]
        exact ih (j + 1) s2 e2 k2 value' errorAt' pc' uc' rc1 lA' letters' py' pu' fp' sp' uY' am1 ge1 lv1 rf1 fam' f1 f2 (by omega) (by omega) (by omega) P2 V2 (fun q => by have := l2' q; omega) DR1
      · obtain ⟨am1, ge1, lv1, rf1, rc1, e1⟩ := refresh_some (am := am) (ge := ge) (lv := lv) (rf := rf) X1
        rw [e1]
        simp only [ob, uc5, lb_eq]
        rw [hstop _ _ _ _ _ _ _ _ _ _ _ _ _ _ _ _ _ _ _ _ _ h5 hc0, hstopM _ _ _ _ _ _ h5 hc0]
        exact ⟨_, _, _, _, _, _, _, _, _, _, _, _, _, _, _, _, _, _, _, _, _, _, _, _, _, _, rfl, rfl, Or.inr ⟨c2, h5, hc0, rfl, rfl, rfl⟩⟩
    obtain ⟨r0, w1, w2, -⟩ := isWord_ok H P 0
    obtain ⟨r1, w3, w4, -⟩ := isWord_ok H P 1
    unfold p10_readClause
    rw [w1, w2]
    simp only [ob]
    cases r0 with
    | true =>
      have D0 := D.dd
      obtain ⟨n, u, pr, a, b, g, an, lc, lt, yr, uy, rfl, rfl, W, -⟩ := D
      have hn := W.n16
      obtain ⟨lA', letters', pu', pc', py', code', errS', kind', start', stop', value', next', begins', token', errorAt', fam', q1, q2, S1, D1, X1⟩ := person_ok H P D0 hn value errorAt
      rw [cond_true, cond_true, q1]
      simp only [ob] at q2
      rw [q2]
      simp only [uc11, uc6]
      exact hnext _ _ _ _ _ _ _ _ _ _ _ _ _ _ _ _ _ _ _ _ S1 D1 X1
    | false =>
      rw [cond_false, cond_false, w3, w4]
      simp only []
      cases r1 with
      | true =>
        obtain ⟨n, u, pr, a, b, g, an, lc, lt, yr, uy, rfl, rfl, W, AN, hC, hX, F, hY, FM, PMf, hUy, HA⟩ := D
        obtain ⟨fp', pu', sp', uc', uY', code', errS', kind', start', stop', value', next', begins', token', errorAt', fam', q1, q2, S1, D1, X1⟩ := union_ok H P W AN hC hX F hY FM PMf hUy HA value errorAt
        rw [cond_true, cond_true, q1]
        simp only [ob] at q2
        rw [q2]
        simp only [uc11, uc6]
        exact hnext _ _ _ _ _ _ _ _ _ _ _ _ _ _ _ _ _ _ _ _ S1 D1 X1
      | false =>
        rw [cond_false, cond_false, fail0, checkF0]
        simp only [lb_eq, uc2]
        unfold p10_readClause_J39
        rw [(semi_err (bs := bs) (L := L) (k2 := nI k) (s2 := nI s) (e2 := nI e) h10 0 0 0 0 0 (nI s) 59).2]
        simp only [ob, uc5, uc6]
        exact hnext _ _ _ _ _ _ _ _ _ _ _ _ _ _ _ _ _ _ _ _ (SIM.err P (c := 1) (by omega) (by omega)) (fun q => absurd q h10) D.dd.fxw
end RLOAD
