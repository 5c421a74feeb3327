/-! a person's sentence, read -/
section YPER
variable {T : List Nat} {bs : Nat → Int32} {m n : Nat} {lc yr : Nat → Nat} {lA letters pu py : Nat → Int32} {P p : Nat} {errS : Int32}
/-- the token behind the place i -/
def NXT (T : List Nat) (bs : Nat → Int32) (i : Nat) (k s e : Int32) : Prop := ∀ kind start value, ∃ v, p3_advance (nI T.length) kind start (nI i) value 0 bs = some (k, s, e, v)
theorem R_person (H : BFT T bs) (hm : m < 16) (S : AT T P (ptL lc yr m)) (C : LCX m lc lA) (X : LTX m lc ltF letters) (hlc : ∀ p, p ≤ m → 2 ≤ lc p ∧ lc p ≤ 8) (hy : yr m ≤ 2100) {k' s' e' : Int32} (N : NXT T bs (P + (ptL lc yr m).length) k' s' e') (v0 : Int32) :
    ∃ lA' le' v', p8_readPerson (nI T.length) (nI 1) (nI P) (nI (P + 6)) v0 0 errS (nI m) lA letters pu py bs = some (lA', le', upd pu m (-1), nI (m + 1), upd (upd py m 0) m (nI (yr m)), 0, errS, k', s', e', v') ∧ LCX (m + 1) lc lA' ∧ LTX (m + 1) lc ltF le' := by
  have hT := H.1
  obtain ⟨l2, l8⟩ := hlc m (Nat.le_refl _)
  have hS := S
  unfold ptL at hS
  obtain ⟨hS1, hsemi⟩ := hS.app
  obtain ⟨hS2, hwy⟩ := hS1.app
  obtain ⟨hw, hnm⟩ := hS2.app
  obtain ⟨hsp, hyr⟩ := hwy.app
  have t2 : txl 2 = 7 := by decide
  have t3 : txl 3 = 1 := by decide
  have lw2 : (wdL 2).length = 7 := by unfold wdL; rw [sq_len, t2]
  have lw3 : (wdL 3).length = 1 := by unfold wdL; rw [sq_len, t3]
  have lnm : (nmL lc m).length = lc m := by unfold nmL; rw [sq_len]
  have hlen : (ptL lc yr m).length = 7 + lc m + (1 + (dgL (yr m)).length) + 1 := by
    unfold ptL
    simp only [List.length_append, lw2, lw3, lnm]
    rfl
  rw [lw2] at hnm
  rw [List.length_append, lw2, lnm] at hsp hyr
  rw [lw3] at hyr
  rw [List.length_append, List.length_append, List.length_append, lw2, lw3, lnm] at hsemi
  have b6 : gB T (P + 6) = 32 := by
    unfold wdL at hw
    have := hw.sq.2 6 (by omega)
    rw [this]
    decide
  have b7 : AT T (P + 6 + 1 + lc m) [32] := by
    have h1 := hsp
    unfold wdL at h1
    obtain ⟨q1, q2⟩ := h1.sq
    rw [t3] at q1
    refine ⟨by show P + 6 + 1 + lc m + 1 ≤ T.length; omega, fun j hj => ?_⟩
    have hj' : j < 1 := hj
    have := q2 0 (by omega)
    rw [show j = 0 by omega, show P + 6 + 1 + lc m + 0 = P + (7 + lc m) + 0 by omega, this]
    decide
  obtain ⟨PTk, v1, e1⟩ := K_name H (P := P + 6) (p := m) (lc := lc) b6 (by rw [show P + 6 + 1 = P + 7 by omega]; exact hnm) l2 ⟨32, b7, Or.inl rfl⟩ (nI 1) (nI P) v0
  have e2 := R_new (errS := errS) H PTk (Nat.le_refl m) hm (by rw [show P + 6 + 1 = P + 7 by omega]; exact hnm) C X (fun p hp => (hlc p (by omega)).2) l2 l8
  obtain ⟨lA', le', e3, z1, z2, z3, z4⟩ := X8_letters (lA := upd lA m 0) (letters := letters) H.buf PTk (by omega) hm upd_eq
  have e4 := K_num H (P := P + 6 + 1 + lc m) (y := yr m) hy b7.one.2 (by rw [show P + 6 + 1 + lc m + 1 = P + (7 + lc m) + 1 by omega]; exact hyr) ⟨59, by rw [show P + 6 + 1 + lc m + 1 + (dgL (yr m)).length = P + (7 + lc m + (1 + (dgL (yr m)).length)) by omega]; exact hsemi, Or.inr rfl⟩ (nI 1) (nI (P + 6 + 1)) v1
  obtain ⟨s1, s2⟩ := hsemi.one
  have e5 := K_semi H (i := P + 6 + 1 + lc m + 1 + (dgL (yr m)).length) (by omega) (by rw [show P + 6 + 1 + lc m + 1 + (dgL (yr m)).length = P + (7 + lc m + (1 + (dgL (yr m)).length)) by omega]; exact s2) (nI 2) (nI (P + 6 + 1 + lc m + 1)) (nI (yr m))
  obtain ⟨v', e6⟩ := N (nI 3) (nI (P + 6 + 1 + lc m + 1 + (dgL (yr m)).length)) (nI 59)
  rw [show P + (ptL lc yr m).length = P + 6 + 1 + lc m + 1 + (dgL (yr m)).length + 1 by omega] at e6
  have e7 := R_year (errS := errS) hy e5
  have e8 := R_semi (errS := errS) e6
  refine ⟨lA', le', v', ?_, fun p hp => ?_, fun p hp i hi => ?_⟩
  · unfold p8_readPerson
    rw [n16, if_pos (nI_lt hm (by omega)), e1]
    simp only [ob, uc4]
    rw [e2]
    simp only [ob, uc2]
    rw [show p3_isFine 0 = true from by decide]
    simp only [cond, p1_addPerson, lb, uc5]
    rw [put_in hm (by omega), put_in hm (by omega), put_in hm (by omega), e3]
    simp only [ob, uc2, p8_readPerson_J86]
    rw [e4]
    simp only [ob, uc4]
    rw [e7]
    simp only [ob, uc7, lb]
    rw [put_in hm (by omega), e8]
    simp only [ob, uc6]
    rw [n1, nI_add]
  · by_cases c : p = m
    · rw [c, z1]
      congr 1
      omega
    · rw [z2 p c, upd_ne c]
      exact C p (by omega)
  · by_cases c : p = m
    · subst c
      have hi' : i < P + 6 + 1 + lc p - (P + 6 + 1) := by omega
      rw [z3 i hi']
      congr 1
      show 96 + (gB T (P + 6 + 1 + i) - 96) = 96 + (1 + (p + i) % 16)
      have := hnm.sq.2 i hi
      rw [show P + 6 + 1 + i = P + 7 + i by omega, this]
      omega
    · rw [z4 _ (by have := (hlc p (by omega)).2; omega)]
      exact X p (by omega) i hi
end YPER
