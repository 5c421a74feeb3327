/-! a union's sentence, read -/
/-- the parents told by the unions before w, and of w's children those before p0 -/
def prq (pr : Nat → Nat) (w p0 x : Nat) : Nat := if pr x < w ∨ (pr x = w ∧ x < p0) then pr x else 12
section YUNI
variable {T : List Nat} {bs : Nat → Int32} {n u w : Nat} {lc pr a b g uy : Nat → Nat} {lA letters pu fp sp uY am : Nat → Int32} {an : Nat → Nat → Bool} {P PK : Nat} {errS : Int32}
theorem ktL_at (h : AT T PK (ktL lc pr w n ++ [59])) : ∀ d p, n - p = d → p ≤ n → AT T PK (ktL lc pr w p) ∧ ∃ c, AT T (PK + (ktL lc pr w p).length) [c] ∧ (c = 32 ∨ c = 59) := by
  intro d
  induction d with
  | zero =>
    intro p h1 h2
    have e : p = n := by omega
    subst e
    exact ⟨h.app.1, 59, h.app.2, Or.inr rfl⟩
  | succ d ih =>
    intro p h1 h2
    obtain ⟨i1, c, i2, i3⟩ := ih (p + 1) (by omega) (by omega)
    have hst : ktL lc pr w (p + 1) = if pr p = w then ktL lc pr w p ++ ([32] ++ nmL lc p) else ktL lc pr w p := rfl
    rw [hst] at i1 i2
    by_cases c1 : pr p = w
    · rw [if_pos c1] at i1
      obtain ⟨j1, j2⟩ := i1.app
      exact ⟨j1, 32, j2.app.1, Or.inl rfl⟩
    · rw [if_neg c1] at i1 i2
      exact ⟨i1, c, i2, i3⟩
theorem R_kids (H : BFT T bs) (hn : n ≤ 16) (hw : w < 12) (C : LCX n lc lA) (X : LTX n lc ltF letters) (hlc : ∀ p, p < n → 2 ≤ lc p ∧ lc p ≤ 8) (S : AT T PK (ktL lc pr w n ++ [59]))
    (ho : ∀ p, p < n → pr p = w → p1_partnerOrAncestor am fp sp (nI w) (nI p) = false) :
    ∀ d p fuel j (pu : Nat → Int32) (kind start value kk ss ee vv : Int32), n - p = d → p ≤ n → j ≤ p → d < fuel → (∀ x, x < n → pu x = oN (prq pr w p x)) →
      p3_advance (nI T.length) kind start (nI (PK + (ktL lc pr w p).length)) value 0 bs = some (kk, ss, ee, vv) →
      ∃ pu', p8_readUnion_L89 am fp lA letters (nI n) sp bs (nI T.length) (nI w) fuel (nI j) pu 0 errS kk ss ee vv = some (pu', 0, errS, nI 3, nI (PK + (ktL lc pr w n).length), nI (PK + (ktL lc pr w n).length + 1), nI 59) ∧ ∀ x, x < n → pu' x = oN (prq pr w n x) := by
  intro d
  induction d with
  | zero =>
    intro p fuel j pu kind start value kk ss ee vv h1 h2 h3 h4 hpu ha
    have e : p = n := by omega
    subst e
    obtain ⟨k, rfl⟩ : ∃ k', fuel = k' + 1 := ⟨fuel - 1, by omega⟩
    obtain ⟨q1, q2⟩ := S.app.2.one
    rw [K_semi H q1 q2] at ha
    cases ha
    refine ⟨pu, ?_, hpu⟩
    rw [p8_readUnion_L89, p8_readUnion_L89_B, show (800 : Int32) = nI 800 from rfl, if_neg (nI_ge (by omega) (by omega)), show p3_isFine 0 = true from by decide]
    simp only [cond]
    rw [if_neg (show ¬ nI 3 = (1 : Int32) by decide)]
  | succ d ih =>
    intro p fuel j pu kind start value kk ss ee vv h1 h2 h3 h4 hpu ha
    have hst : ktL lc pr w (p + 1) = if pr p = w then ktL lc pr w p ++ ([32] ++ nmL lc p) else ktL lc pr w p := rfl
    by_cases c1 : pr p = w
    · rw [if_pos c1] at hst
      have hp : p < n := by omega
      obtain ⟨l2, l8⟩ := hlc p hp
      obtain ⟨i1, c, i2, i3⟩ := ktL_at S (n - (p + 1)) (p + 1) rfl (by omega)
      rw [hst] at i1 i2
      have lnm : (nmL lc p).length = lc p := by unfold nmL; rw [sq_len]
      have hl1 : ([32] : List Nat).length = 1 := rfl
      rw [List.length_append, List.length_append, lnm, hl1] at i2
      obtain ⟨-, j2⟩ := i1.app
      obtain ⟨j3, j4⟩ := j2.app
      rw [hl1] at j4
      obtain ⟨PTk, v1, e1⟩ := K_name H j3.one.2 j4 l2 ⟨c, by rw [show PK + (ktL lc pr w p).length + 1 + lc p = PK + ((ktL lc pr w p).length + (1 + lc p)) by omega]; exact i2, i3⟩ kind start value
      rw [e1] at ha
      cases ha
      have e2 := R_checked (errS := errS) H PTk hn hp j4 C X (fun p hp => (hlc p hp).2) l2
      obtain ⟨k, rfl⟩ : ∃ k', fuel = k' + 1 := ⟨fuel - 1, by omega⟩
      have hpk : PK + (ktL lc pr w p).length + 1 + lc p = PK + (ktL lc pr w (p + 1)).length := by
        rw [hst, List.length_append, List.length_append, lnm, hl1]; omega
      have hT : PK + (ktL lc pr w (p + 1)).length ≤ T.length := by rw [← hpk]; exact PTk.2.1
      obtain ⟨a1, a2⟩ : ∃ z, p3_advance (nI T.length) (nI 1) (nI (PK + (ktL lc pr w p).length + 1)) (nI (PK + (ktL lc pr w (p + 1)).length)) vv 0 bs = some z := by
        obtain ⟨v, z, -⟩ := X3_advance H.buf (i := PK + (ktL lc pr w (p + 1)).length) hT (nI 1) (nI (PK + (ktL lc pr w p).length + 1)) vv
        exact ⟨_, z⟩
      obtain ⟨k2, s2, e3, v2⟩ := a1
      obtain ⟨pu', e4, h5⟩ := ih (p + 1) k (j + 1) (upd pu p (nI w)) _ _ _ k2 s2 e3 v2 (by omega) (by omega) (by omega) (by omega) (fun x hx => by
        unfold prq
        by_cases e : x = p
        · subst e
          rw [upd_eq, if_pos (Or.inr ⟨c1, by omega⟩), c1, oN_in hw]
        · rw [upd_ne e, hpu x hx]
          unfold prq
          by_cases q : pr x < w ∨ (pr x = w ∧ x < p)
          · rw [if_pos q, if_pos (by omega)]
          · rw [if_neg q, if_neg (by omega)]) a2
      refine ⟨pu', ?_, h5⟩
      have hnp : p1_hasParents pu (nI p) = false := by
        unfold p1_hasParents
        rw [at_in (by omega) (by omega), hpu p hp, show prq pr w p p = 12 from if_neg (by omega), oN_12]
        rfl
      rw [p8_readUnion_L89, p8_readUnion_L89_B, show (800 : Int32) = nI 800 from rfl, if_neg (nI_ge (by omega) (by omega)), show p3_isFine 0 = true from by decide]
      simp only [cond]
      rw [if_pos (show nI 1 = (1 : Int32) from rfl)]
      unfold p8_readChild
      rw [e2]
      simp only [ob, uc3]
      rw [show p3_isFine 0 = true from by decide, hnp, ho p hp c1]
      simp only [cond, lb]
      rw [put_in (by omega) (by omega), hpk, a2]
      simp only [ob, uc4, uc7]
      rw [n1, nI_add]
      exact e4
    · rw [if_neg c1] at hst
      rw [← hst] at ha
      exact ih (p + 1) fuel j pu kind start value kk ss ee vv (by omega) (by omega) (by omega) (by omega) (fun x hx => by
        rw [hpu x hx]
        unfold prq
        by_cases q : pr x < w ∨ (pr x = w ∧ x < p)
        · rw [if_pos q, if_pos (by omega)]
        · rw [if_neg q, if_neg (by
            intro z
            rcases z with z | ⟨z1, z2⟩
            · omega
            · by_cases e : x = p
              · subst e; exact c1 z1
              · omega)]) ha
theorem R_union (H : BFT T bs) (hn : n ≤ 16) (hw : w < 12) (C : LCX n lc lA) (X : LTX n lc ltF letters) (hlc : ∀ p, p < n → 2 ≤ lc p ∧ lc p ≤ 8) (ha : a w < n) (hb : b w < n) (hab : a w ≠ b w) (hy : uy w ≤ 2100) (S : AT T P (utL n lc pr a b uy w))
    (hup : p1_unionOfPair (nI w) fp sp (nI (a w)) (nI (b w)) = some (-1)) (hpu : ∀ x, x < n → pu x = oN (prq pr w 0 x))
    (ho : ∀ p, p < n → pr p = w → p1_partnerOrAncestor am (upd fp w (nI (a w))) (upd sp w (nI (b w))) (nI w) (nI p) = false)
    {k' s' e' : Int32} (N : NXT T bs (P + (utL n lc pr a b uy w).length) k' s' e') (v0 : Int32) :
    ∃ pu' v', p8_readUnion (nI T.length) (nI 1) (nI P) (nI (P + 5)) v0 0 errS (nI n) (nI w) am fp lA letters pu sp uY bs = some (upd fp w (nI (a w)), pu', upd sp w (nI (b w)), nI (w + 1), upd uY w (nI (uy w)), 0, errS, k', s', e', v') ∧ ∀ x, x < n → pu' x = oN (prq pr w n x) := by
  have hT := H.1
  obtain ⟨la2, la8⟩ := hlc _ ha
  obtain ⟨lb2, lb8⟩ := hlc _ hb
  have t4 : txl 4 = 6 := by decide
  have t3 : txl 3 = 1 := by decide
  have lw4 : (wdL 4).length = 6 := by unfold wdL; rw [sq_len, t4]
  have lw3 : (wdL 3).length = 1 := by unfold wdL; rw [sq_len, t3]
  have lnm : ∀ p, (nmL lc p).length = lc p := fun p => by unfold nmL; rw [sq_len]
  have hl1 : ([32] : List Nat).length = 1 := rfl
  have hl2 : ([59] : List Nat).length = 1 := rfl
  have hlen : (utL n lc pr a b uy w).length = 6 + lc (a w) + 1 + lc (b w) + (1 + (dgL (uy w)).length) + (ktL lc pr w n).length + 1 := by
    unfold utL
    simp only [List.length_append, lw4, lw3, lnm]
    rfl
  have hS : AT T P (wdL 4 ++ (nmL lc (a w) ++ ([32] ++ (nmL lc (b w) ++ (wdL 3 ++ (dgL (uy w) ++ (ktL lc pr w n ++ [59]))))))) := by
    have := S
    unfold utL at this
    simp only [List.append_assoc] at this
    exact this
  obtain ⟨sw, S1⟩ := hS.app
  obtain ⟨sa, S2⟩ := S1.app
  obtain ⟨s32, S3⟩ := S2.app
  obtain ⟨sb, S4⟩ := S3.app
  obtain ⟨s33, S5⟩ := S4.app
  obtain ⟨sy, S6⟩ := S5.app
  rw [lw4] at sa S2 s32 S3 sb S4 s33 S5 sy S6
  rw [lnm] at s32 S3 sb S4 s33 S5 sy S6
  rw [hl1] at sb S4 s33 S5 sy S6
  rw [lnm] at s33 S5 sy S6
  rw [lw3] at sy S6
  have b5 : gB T (P + 5) = 32 := by
    unfold wdL at sw
    rw [sw.sq.2 5 (by omega)]
    decide
  have s33' : AT T (P + 6 + lc (a w) + 1 + lc (b w)) [32] := by
    have h1 := s33
    unfold wdL at h1
    obtain ⟨q1, q2⟩ := h1.sq
    rw [t3] at q1
    refine ⟨q1, fun j hj => ?_⟩
    have hj' : j < 1 := hj
    rw [q2 j (by omega), show j = 0 by omega]
    decide
  obtain ⟨-, cc, hc1, hc2⟩ := ktL_at S6 n 0 rfl (Nat.zero_le _)
  obtain ⟨PTa, va, e1⟩ := K_name H (P := P + 5) (p := a w) (lc := lc) b5 (by rw [show P + 5 + 1 = P + 6 by omega]; exact sa) la2 ⟨32, by rw [show P + 5 + 1 + lc (a w) = P + 6 + lc (a w) by omega]; exact s32, Or.inl rfl⟩ (nI 1) (nI P) v0
  have e2 := R_checked (errS := errS) H PTa hn ha (by rw [show P + 5 + 1 = P + 6 by omega]; exact sa) C X (fun p hp => (hlc p hp).2) la2
  obtain ⟨PTb, vb, e3⟩ := K_name H (P := P + 5 + 1 + lc (a w)) (p := b w) (lc := lc) (by rw [show P + 5 + 1 + lc (a w) = P + 6 + lc (a w) by omega]; exact s32.one.2) (by rw [show P + 5 + 1 + lc (a w) + 1 = P + 6 + lc (a w) + 1 by omega]; exact sb) lb2 ⟨32, by rw [show P + 5 + 1 + lc (a w) + 1 + lc (b w) = P + 6 + lc (a w) + 1 + lc (b w) by omega]; exact s33', Or.inl rfl⟩ (nI 1) (nI (P + 5 + 1)) va
  have e4 := R_checked (errS := errS) H PTb hn hb (by rw [show P + 5 + 1 + lc (a w) + 1 = P + 6 + lc (a w) + 1 by omega]; exact sb) C X (fun p hp => (hlc p hp).2) lb2
  have e5 := K_num H (P := P + 5 + 1 + lc (a w) + 1 + lc (b w)) (y := uy w) hy (by rw [show P + 5 + 1 + lc (a w) + 1 + lc (b w) = P + 6 + lc (a w) + 1 + lc (b w) by omega]; exact s33'.one.2) (by rw [show P + 5 + 1 + lc (a w) + 1 + lc (b w) + 1 = P + 6 + lc (a w) + 1 + lc (b w) + 1 by omega]; exact sy) ⟨cc, by
    have h0 : (ktL lc pr w 0).length = 0 := rfl
    rw [h0, Nat.add_zero] at hc1
    rw [show P + 5 + 1 + lc (a w) + 1 + lc (b w) + 1 + (dgL (uy w)).length = P + 6 + lc (a w) + 1 + lc (b w) + 1 + (dgL (uy w)).length by omega]
    exact hc1, hc2⟩ (nI 1) (nI (P + 5 + 1 + lc (a w) + 1)) vb
  obtain ⟨⟨kk, ss, ee, vv⟩, e6⟩ : ∃ z, p3_advance (nI T.length) (nI 2) (nI (P + 5 + 1 + lc (a w) + 1 + lc (b w) + 1)) (nI (P + 6 + lc (a w) + 1 + lc (b w) + 1 + (dgL (uy w)).length + (ktL lc pr w 0).length)) (nI (uy w)) 0 bs = some z := by
    obtain ⟨v, z, -⟩ := X3_advance H.buf (i := P + 6 + lc (a w) + 1 + lc (b w) + 1 + (dgL (uy w)).length + (ktL lc pr w 0).length) (by
      have h0 : (ktL lc pr w 0).length = 0 := rfl
      have := hc1.one.1
      omega) (nI 2) (nI (P + 5 + 1 + lc (a w) + 1 + lc (b w) + 1)) (nI (uy w))
    exact ⟨_, z⟩
  obtain ⟨pu', e7, h7⟩ := R_kids (errS := errS) H hn hw C X hlc S6 ho n 0 FU 0 pu _ _ _ kk ss ee vv rfl (Nat.zero_le _) (Nat.le_refl _) (by show n < 1024; omega) hpu e6
  obtain ⟨v', e8⟩ := N (nI 3) (nI (P + 6 + lc (a w) + 1 + lc (b w) + 1 + (dgL (uy w)).length + (ktL lc pr w n).length)) (nI 59)
  rw [show P + (utL n lc pr a b uy w).length = P + 6 + lc (a w) + 1 + lc (b w) + 1 + (dgL (uy w)).length + (ktL lc pr w n).length + 1 by omega] at e8
  have e9 := R_semi (errS := errS) e8
  rw [show P + 6 + lc (a w) + 1 + lc (b w) + 1 + (dgL (uy w)).length + (ktL lc pr w 0).length = P + 5 + 1 + lc (a w) + 1 + lc (b w) + 1 + (dgL (uy w)).length by
    have h0 : (ktL lc pr w 0).length = 0 := rfl
    omega] at e6
  have e10 := R_year (errS := errS) hy e6
  refine ⟨pu', v', ?_, h7⟩
  unfold p8_readUnion
  rw [n12, if_pos (nI_lt hw (by omega)), e1]
  simp only [ob, uc4]
  rw [e2]
  simp only [ob, uc3]
  rw [e3]
  simp only [ob, uc4]
  rw [e4]
  simp only [ob, uc3]
  unfold p8_checkPair
  rw [if_neg (fun z => hab ((nI_eq (by omega) (by omega)).mp z)), hup]
  simp only [ob]
  first
    | rw [if_pos trivial]
    | rw [if_pos rfl]
  simp only [uc2]
  rw [e5]
  simp only [ob, uc4]
  rw [e10]
  simp only [ob, uc7]
  rw [show p3_isFine 0 = true from by decide]
  simp only [cond, p1_addUnion, lb, uc5]
  rw [put_in hw (by omega), put_in hw (by omega), put_in hw (by omega), n0]
  rw [n0] at e7
  rw [e7]
  simp only [ob, uc7, p8_readUnion_J130]
  rw [n0] at e9
  rw [e9]
  simp only [ob, uc6]
  rw [n1, nI_add]
end YUNI
