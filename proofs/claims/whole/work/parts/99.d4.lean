/-! queries: a value, a comparison read on both sides -/
section QREAD
variable {B : Nat → Nat} {L : Nat} {bs bf : Nat → Int32} {n u : Nat} {pr a b g : Nat → Nat} {an : Nat → Nat → Bool} {yr : Nat → Int32} {lc : Nat → Nat} {lt : Nat → Nat → Nat} {ge q p1 cd : Nat → Int32} {fam : Nat → Int64} {s e k c : Nat} {kind start stop value code errS errorAt : Int32} {lv rv : Nat → Int32}
theorem L30_at {j : Nat} {r : Bool} (hw : p10_isWord (nI e) (nI s) (nI k) 0 bf (nmW j) = some r) (hj : j < 7) (t : Nat) : p10_compileValue_L30 (nI s) bf 0 (nI e) (nI k) (t + 1) (nI j) = cond r (some (nI j)) (p10_compileValue_L30 (nI s) bf 0 (nI e) (nI k) t (nI (j + 1))) := by
  rw [p10_compileValue_L30, p10_compileValue_L30_B, n7, if_neg (nI_ge hj (by omega)), gd_in hj (by omega), nI_clamp (by omega), hw]
  simp only [ob, lb_eq]
  rw [n1, nI_add]
theorem value_fine (H : BUF B L bs bf) (P : PT B L s e k) (V : VAL B s e k value) (hn : n ≤ 16) (hq : ∀ w p, w < 7 → p < n → q (w * 16 + p) = PV n u pr a b g an yr w p) (hc : k ≠ 0 → c < 200) (errorAt : Int32) :
    ∃ code' errS' kind' start' stop' value' p1' begins' cc' cd' errorAt' next' token', p5_readValue 16 (nI L) (nI k) (nI s) (nI e) value 0 (-1) (nI n) bs p1 q = some (code', errS', kind', start', stop', value', p1') ∧
      p10_compileValue (nI L) (nI e) (nI s) (nI k) 0 errorAt (nI c) bf cd = some (begins', cc', cd', code', errorAt', next', token') ∧ SIMQ B L e kind' start' stop' value' code' errS' next' begins' token' code' errorAt' ∧
      (code' = 0 → s < e ∧ cc' = nI (c + 1) ∧ ∃ x, cd' = upd cd c x ∧ VALC n u pr a b g an yr x p1') := by
  have hL := H.1
  have hk : k < 4 := P.2.2.1
  have h10 : ¬ (1 : Int32) = 0 := by decide
  have h20 : ¬ (2 : Int32) = 0 := by decide
  by_cases c2 : k = 2
  · subst c2
    have hv := V.1 rfl
    subst hv
    obtain ⟨f, e0, h0⟩ := X9_fill (N := 16) (f := p1) (x := nI (min 1000000 (nmr B s (e - s)))) (by omega)
    by_cases c3 : nmr B s (e - s) ≤ 99999
    · have m1 : min 1000000 (nmr B s (e - s)) = nmr B s (e - s) := by omega
      have m2 : min 2000000000 (nmr B s (e - s)) = nmr B s (e - s) := by omega
      rw [m1] at e0 h0
      obtain ⟨s', e', k', v', a1, a2, P', V', l1⟩ := adv_fine2 H P (nI 2) (nI s) (nI (nmr B s (e - s))) (nI s) (nI 2)
      refine ⟨0, -1, _, _, _, _, f, _, nI (c + 1), upd cd c (nI (nmr B s (e - s))), errorAt, _, _, ?_, ?_, SIMQ.fine P' V' l1, fun _ => ⟨P.2.2.2.1 (by omega), rfl, _, rfl, Or.inl ⟨_, c3, rfl, fun p hp => h0 p (by omega)⟩⟩⟩
      · unfold p5_readValue p5_readValue_J181 p5_readValue_J212
        rw [m1, if_pos n2.symm, e0]
        simp only [ob]
        rw [if_pos n2.symm, if_pos (show nI (nmr B s (e - s)) ≤ 99999 from nI_le (b := 99999) c3 (by omega)), a1]
        rfl
      · unfold p10_compileValue p10_compileValue_J15 p10_readNumber p10_readNumber_J25 p10_readNumber_J59
        rw [if_pos rfl, if_pos n2.symm, if_pos rfl, if_pos n2.symm, checkT]
        simp only [lb_eq, uc2]
        rw [M_value H P, if_pos rfl, m2]
        simp only [ob]
        rw [if_pos trivial, show p10_inRange (nI (nmr B s (e - s))).toInt64 (0 : Int32).toInt64 (99999 : Int32).toInt64 = true by
          rw [inR, if_neg (show ¬ nI (nmr B s (e - s)) < 0 from nI_pos (by omega)), if_pos (show nI (nmr B s (e - s)) ≤ 99999 from nI_le (b := 99999) c3 (by omega))], cond_true, checkT]
        simp only []
        rw [a2]
        simp only [uc3]
        rw [if_pos trivial]
        simp only [uc6]
        rw [emit0 (hc (by omega))]
        rfl
    · refine ⟨2, nI s, nI 2, nI s, nI e, nI (min 1000000 (nmr B s (e - s))), f, nI s, nI c, cd, nI s, nI e, nI 2, ?_, ?_, SIMQ.err P (c := 2) (by omega) (by omega), fun z => absurd z h20⟩
      · unfold p5_readValue p5_readValue_J181 p5_readValue_J212
        rw [if_pos n2.symm, e0]
        simp only [ob]
        rw [if_pos n2.symm, if_neg (show ¬ nI (min 1000000 (nmr B s (e - s))) ≤ 99999 from nI_ge (a := 99999) (by omega) (by omega)), fail0]
        simp only [lb_eq, uc2]
        rw [X_advE h20]
        rfl
      · unfold p10_compileValue p10_compileValue_J15 p10_readNumber p10_readNumber_J25 p10_readNumber_J59
        rw [if_pos rfl, if_pos n2.symm, if_pos rfl, if_pos n2.symm, checkT]
        simp only [lb_eq, uc2]
        rw [M_value H P, if_pos rfl]
        simp only [ob]
        rw [if_pos trivial, show p10_inRange (nI (min 2000000000 (nmr B s (e - s)))).toInt64 (0 : Int32).toInt64 (99999 : Int32).toInt64 = false by
          rw [inR, if_neg (show ¬ nI (min 2000000000 (nmr B s (e - s))) < 0 from nI_pos (by omega)), if_neg (show ¬ nI (min 2000000000 (nmr B s (e - s))) ≤ 99999 from nI_ge (a := 99999) (by omega) (by omega))], cond_false, checkF0]
        simp only []
        rw [M_advE h20]
        simp only [uc3]
        rw [if_neg h20]
        simp only [uc6]
        rw [emitE h20]
        rfl
  · have c2' : ¬ nI k = 2 := fun z => c2 ((nI_eq (a := k) (b := 2) (by omega) (by omega)).mp z)
    obtain ⟨r0, w0, y0, z0⟩ := isWord_ok H P 0
    obtain ⟨r1, w1, y1, z1⟩ := isWord_ok H P 5
    obtain ⟨r2, w2, y2, z2⟩ := isWord_ok H P 6
    obtain ⟨r3, w3, y3, z3⟩ := isWord_ok H P 7
    obtain ⟨r4, w4, y4, z4⟩ := isWord_ok H P 8
    obtain ⟨r5, w5, y5, z5⟩ := isWord_ok H P 9
    obtain ⟨r6, w6, y6, z6⟩ := isWord_ok H P 10
    have hM : ∀ j, p10_compileValue_L30 (nI s) bf 0 (nI e) (nI k) FU 0 = some (nI j) → p10_compileValue (nI L) (nI e) (nI s) (nI k) 0 errorAt (nI c) bf cd = p10_compileValue_J58 (nI s) bf (nI c) cd 0 errorAt (nI L) (nI e) (nI k) (nI j) := by
      intro j hj
      unfold p10_compileValue
      rw [if_pos rfl, if_neg c2', hj]
      rfl
    have hfound : ∀ j, j < 7 → k = 1 → p10_compileValue_L30 (nI s) bf 0 (nI e) (nI k) FU 0 = some (nI j) → (∀ t, p5_takeProperty 16 (nI n) p1 q (nI j) = some t → p5_readValue 16 (nI L) (nI k) (nI s) (nI e) value 0 (-1) (nI n) bs p1 q = p5_readValue_J181 bs (nI k) (nI L) (nI s) (nI e) value 0 (-1) t) →
        ∃ code' errS' kind' start' stop' value' p1' begins' cc' cd' errorAt' next' token', p5_readValue 16 (nI L) (nI k) (nI s) (nI e) value 0 (-1) (nI n) bs p1 q = some (code', errS', kind', start', stop', value', p1') ∧
          p10_compileValue (nI L) (nI e) (nI s) (nI k) 0 errorAt (nI c) bf cd = some (begins', cc', cd', code', errorAt', next', token') ∧ SIMQ B L e kind' start' stop' value' code' errS' next' begins' token' code' errorAt' ∧
          (code' = 0 → s < e ∧ cc' = nI (c + 1) ∧ ∃ x, cd' = upd cd c x ∧ VALC n u pr a b g an yr x p1') := by
      intro j hj hk1 h1 h2
      obtain ⟨t, ht, htv⟩ := take_ok (n := n) (p1 := p1) (q := q) hn hj
      obtain ⟨s', e', k', v', a1, a2, P', V', l1⟩ := adv_fine2 H P (nI k) (nI s) value (nI s) (nI k)
      refine ⟨0, -1, _, _, _, _, t, _, nI (c + 1), upd cd c (-1 - nI j), errorAt, _, _, ?_, ?_, SIMQ.fine P' V' l1, fun _ => ⟨P.2.2.2.1 (by omega), rfl, _, rfl, Or.inr ⟨j, hj, rfl, fun p hp => by rw [htv p hp]; exact hq j p hj hp⟩⟩⟩
      · rw [h2 t ht]
        unfold p5_readValue_J181 p5_readValue_J212
        rw [if_neg c2', a1]
        rfl
      · rw [hM j h1]
        unfold p10_compileValue_J58 p10_compileValue_J77
        rw [n7, if_neg (nI_ge hj (by omega)), checkT]
        simp only [lb_eq, uc2]
        rw [emit0 (hc (by omega))]
        simp only [ob, uc2]
        rw [a2]
        rfl
    have hz : p10_compileValue_L30 (nI s) bf 0 (nI e) (nI k) FU 0 = p10_compileValue_L30 (nI s) bf 0 (nI e) (nI k) (1015 + 1 + 1 + 1 + 1 + 1 + 1 + 1 + 1 + 1) (nI 0) := rfl
    have hx := fun (j : Nat) (r : Bool) (hw : p10_isWord (nI e) (nI s) (nI k) 0 bf (nmW j) = some r) (hj : j < 7) (t : Nat) => L30_at hw hj t
    have x0 := hx 0 r0 y0 (by omega)
    have x1 := hx 1 r1 y1 (by omega)
    have x2 := hx 2 r2 y2 (by omega)
    have x3 := hx 3 r3 y3 (by omega)
    have x4 := hx 4 r4 y4 (by omega)
    have x5 := hx 5 r5 y5 (by omega)
    have x6 := hx 6 r6 y6 (by omega)
    have hcl : p5_readValue 16 (nI L) (nI k) (nI s) (nI e) value 0 (-1) (nI n) bs p1 q = cond r0 (ob (p5_takeProperty 16 (nI n) p1 q (nI 0)) (fun t => p5_readValue_J181 bs (nI k) (nI L) (nI s) (nI e) value 0 (-1) t)) (cond r1 (ob (p5_takeProperty 16 (nI n) p1 q (nI 1)) (fun t => p5_readValue_J181 bs (nI k) (nI L) (nI s) (nI e) value 0 (-1) t)) (cond r2 (ob (p5_takeProperty 16 (nI n) p1 q (nI 2)) (fun t => p5_readValue_J181 bs (nI k) (nI L) (nI s) (nI e) value 0 (-1) t)) (cond r3 (ob (p5_takeProperty 16 (nI n) p1 q (nI 3)) (fun t => p5_readValue_J181 bs (nI k) (nI L) (nI s) (nI e) value 0 (-1) t)) (cond r4 (ob (p5_takeProperty 16 (nI n) p1 q (nI 4)) (fun t => p5_readValue_J181 bs (nI k) (nI L) (nI s) (nI e) value 0 (-1) t)) (cond r5 (ob (p5_takeProperty 16 (nI n) p1 q (nI 5)) (fun t => p5_readValue_J181 bs (nI k) (nI L) (nI s) (nI e) value 0 (-1) t)) (cond r6 (ob (p5_takeProperty 16 (nI n) p1 q (nI 6)) (fun t => p5_readValue_J181 bs (nI k) (nI L) (nI s) (nI e) value 0 (-1) t)) (p5_readValue_J181 bs (nI k) (nI L) (nI s) (nI e) value 1 (nI s) p1))))))) := by
      unfold p5_readValue
      rw [if_neg c2', w0, w1, w2, w3, w4, w5, w6, fail0]
      rfl
    cases r0 with
    | true => exact hfound 0 (by omega) (z0 rfl) (by rw [hz, x0]; rfl) (fun t ht => by rw [hcl, cond_true, ht]; rfl)
    | false =>
      cases r1 with
      | true => exact hfound 1 (by omega) (z1 rfl) (by rw [hz, x0, cond_false, x1]; rfl) (fun t ht => by rw [hcl, cond_false, cond_true, ht]; rfl)
      | false =>
        cases r2 with
        | true => exact hfound 2 (by omega) (z2 rfl) (by rw [hz, x0, cond_false, x1, cond_false, x2]; rfl) (fun t ht => by rw [hcl, cond_false, cond_false, cond_true, ht]; rfl)
        | false =>
          cases r3 with
          | true => exact hfound 3 (by omega) (z3 rfl) (by rw [hz, x0, cond_false, x1, cond_false, x2, cond_false, x3]; rfl) (fun t ht => by rw [hcl, cond_false, cond_false, cond_false, cond_true, ht]; rfl)
          | false =>
            cases r4 with
            | true => exact hfound 4 (by omega) (z4 rfl) (by rw [hz, x0, cond_false, x1, cond_false, x2, cond_false, x3, cond_false, x4]; rfl) (fun t ht => by rw [hcl, cond_false, cond_false, cond_false, cond_false, cond_true, ht]; rfl)
            | false =>
              cases r5 with
              | true => exact hfound 5 (by omega) (z5 rfl) (by rw [hz, x0, cond_false, x1, cond_false, x2, cond_false, x3, cond_false, x4, cond_false, x5]; rfl) (fun t ht => by rw [hcl, cond_false, cond_false, cond_false, cond_false, cond_false, cond_true, ht]; rfl)
              | false =>
                cases r6 with
                | true => exact hfound 6 (by omega) (z6 rfl) (by rw [hz, x0, cond_false, x1, cond_false, x2, cond_false, x3, cond_false, x4, cond_false, x5, cond_false, x6]; rfl) (fun t ht => by rw [hcl, cond_false, cond_false, cond_false, cond_false, cond_false, cond_false, cond_true, ht]; rfl)
                | false =>
                  have h7 : p10_compileValue_L30 (nI s) bf 0 (nI e) (nI k) FU 0 = some (nI 7) := by
                    rw [hz, x0, cond_false, x1, cond_false, x2, cond_false, x3, cond_false, x4, cond_false, x5, cond_false, x6, cond_false, p10_compileValue_L30, p10_compileValue_L30_B, n7, if_pos (nI_le (by omega) (by omega))]
                  refine ⟨1, nI s, nI k, nI s, nI e, value, p1, nI s, nI c, cd, nI s, nI e, nI k, ?_, ?_, SIMQ.err P (c := 1) (by omega) (by omega), fun z => absurd z h10⟩
                  · rw [hcl, cond_false, cond_false, cond_false, cond_false, cond_false, cond_false, cond_false]
                    exact J212_err h10 _ _ _ _ _ _
                  · rw [hM 7 h7]
                    unfold p10_compileValue_J58 p10_compileValue_J77
                    rw [n7, if_pos (nI_le (Nat.le_refl _) (by omega)), checkF0]
                    simp only [lb_eq, uc2]
                    rw [emitE h10]
                    simp only [ob, uc2]
                    rw [M_advE h10]
                    rfl
end QREAD
