/-! queries: properties, values -/
def PV (n u : Nat) (pr a b g : Nat → Nat) (an : Nat → Nat → Bool) (yr : Nat → Int32) (w p : Nat) : Int32 :=
  if w = 0 then nI p else if w = 1 then yr p else if w = 2 then nI (g p) else if w = 3 then nI (cnt (fun x => a x == p || b x == p) u) else if w = 4 then nI (cnt (kid n pr a b p) 16) else if w = 5 then nI (cnt (an p) 16) else nI (cnt (fun q => decide (q < n) && an q p) 16)
def VALC (n u : Nat) (pr a b g : Nat → Nat) (an : Nat → Nat → Bool) (yr : Nat → Int32) (x : Int32) (vals : Nat → Int32) : Prop :=
  (∃ m, m ≤ 99999 ∧ x = nI m ∧ ∀ p, p < n → vals p = nI m) ∨ ∃ w, w < 7 ∧ x = -1 - nI w ∧ ∀ p, p < n → vals p = PV n u pr a b g an yr w p
section QVAL
variable {B : Nat → Nat} {L : Nat} {bs bf : Nat → Int32} {n u : Nat} {pr a b g : Nat → Nat} {an : Nat → Nat → Bool} {yr : Nat → Int32} {lc : Nat → Nat} {lt : Nat → Nat → Nat} {lA letters py pu fp sp ge am lv rf q p1 cd : Nat → Int32} {fam : Nat → Int64} {s e k : Nat} {kind start stop value code errS errorAt : Int32}
theorem X5_props (W : WF n u pr a b g) (AN : ANC n pr a b an) (F : FX n u pr a b pu fp sp) (Q : RF n u a b g an ge am lv rf) (hy : ∀ p, p < n → py p = yr p) :
    ∃ q', p5_noteProperties (nI n) (nI u) am fp ge pu py sp q = some q' ∧ ∀ w p, w < 7 → p < n → q' (w * 16 + p) = PV n u pr a b g an yr w p := by
  have hn := W.n16
  obtain ⟨z, e1, h1⟩ := loop_all (fun t i (z : Nat → Int32) => p5_noteProperties_L2 am fp ge pu (nI n) py sp (nI u) t (nI i) z) n
    (fun i z => ∀ w p, w < 7 → p < i → z (w * 16 + p) = PV n u pr a b g an yr w p) (fun z => ∀ w p, w < 7 → p < n → z (w * 16 + p) = PV n u pr a b g an yr w p) (by
      intro t z hz
      refine ⟨z, ?_, hz⟩
      try dsimp only
      rw [p5_noteProperties_L2, p5_noteProperties_L2_B, if_pos (nI_le (Nat.le_refl _) (by omega))]) (by
      intro t i z hi hz
      refine ⟨upd (upd (upd (upd (upd (upd (upd z (0 * 16 + i) (nI i)) (1 * 16 + i) (yr i)) (2 * 16 + i) (nI (g i))) (3 * 16 + i) (nI (cnt (fun x => a x == i || b x == i) u))) (4 * 16 + i) (nI (cnt (kid n pr a b i) 16))) (5 * 16 + i) (nI (cnt (an i) 16))) (6 * 16 + i) (nI (cnt (fun q => decide (q < n) && an q i) 16)), ?_, fun w p hw hp => ?_⟩
      · try dsimp only
        rw [p5_noteProperties_L2, p5_noteProperties_L2_B, if_neg (nI_ge hi (by omega))]
        unfold p5_noteProperty
        rw [X1_unionsOf W F (by omega), X1_kids W F (by omega), X1_desc W Q.1 hi]
        simp only [ob, lb_eq]
        rw [X_count, X_count, at_in (by omega) (by omega), at_in (by omega) (by omega), at_in (by omega) (by omega), am_mkm W AN Q hi, X_count, hy i hi, (Q.1 i hi).1]
        rw [n0, n1, n2, n3, n4, n5, n6, n16, nI_mul, nI_mul, nI_mul, nI_mul, nI_mul, nI_mul, nI_mul, nI_add, nI_add, nI_add, nI_add, nI_add, nI_add, nI_add, nI_add, put_in (by omega) (by omega), put_in (by omega) (by omega), put_in (by omega) (by omega), put_in (by omega) (by omega), put_in (by omega) (by omega), put_in (by omega) (by omega), put_in (by omega) (by omega)]
      · by_cases ep : p = i
        · subst ep
          unfold PV
          have hw' : w = 0 ∨ w = 1 ∨ w = 2 ∨ w = 3 ∨ w = 4 ∨ w = 5 ∨ w = 6 := by omega
          rcases hw' with rfl | rfl | rfl | rfl | rfl | rfl | rfl
          · rw [upd_ne (by omega), upd_ne (by omega), upd_ne (by omega), upd_ne (by omega), upd_ne (by omega), upd_ne (by omega), upd_eq]; rfl
          · rw [upd_ne (by omega), upd_ne (by omega), upd_ne (by omega), upd_ne (by omega), upd_ne (by omega), upd_eq]; rfl
          · rw [upd_ne (by omega), upd_ne (by omega), upd_ne (by omega), upd_ne (by omega), upd_eq]; rfl
          · rw [upd_ne (by omega), upd_ne (by omega), upd_ne (by omega), upd_eq]; rfl
          · rw [upd_ne (by omega), upd_ne (by omega), upd_eq]; rfl
          · rw [upd_ne (by omega), upd_eq]; rfl
          · rw [upd_eq]; rfl
        · rw [upd_ne (by omega), upd_ne (by omega), upd_ne (by omega), upd_ne (by omega), upd_ne (by omega), upd_ne (by omega), upd_ne (by omega)]
          exact hz w p hw (by omega)) FU 0 q (Nat.zero_le _) (by show n - 0 < 1024; omega) (fun w p _ hp => absurd hp (Nat.not_lt_zero _))
  have e1' : p5_noteProperties_L2 am fp ge pu (nI n) py sp (nI u) FU (nI 0) q = some z := e1
  refine ⟨z, ?_, h1⟩
  unfold p5_noteProperties
  rw [n0, e1']
  rfl
theorem M_property (W : WF n u pr a b g) (AN : ANC n pr a b an) (F : MX n u pr a b fam) (hg : ∀ p, p < n → ge p = nI (g p)) (PMf : PM n lc lt yr fam) {w p : Nat} (hw : w < 7) (hp : p < n) : p10_property fam ge (nI p) (nI w) = some (PV n u pr a b g an yr w p).toInt64 := by
  have hn := W.n16
  unfold p10_property PV
  have hw' : w = 0 ∨ w = 1 ∨ w = 2 ∨ w = 3 ∨ w = 4 ∨ w = 5 ∨ w = 6 := by omega
  rcases hw' with rfl | rfl | rfl | rfl | rfl | rfl | rfl
  · rw [if_pos (by decide), if_pos rfl]
  · rw [if_neg (by decide), if_pos (by decide), if_neg (by decide), if_pos rfl, n0, M_ofPerson (by omega) (by omega), show 2 + 4 * p + 0 = 2 + 4 * p from rfl, PMf.2.2 p hp]
    rfl
  · rw [if_neg (by decide), if_neg (by decide), if_pos (by decide), if_neg (by decide), if_neg (by decide), if_pos rfl, gd_in (by omega) (by omega), nI_clamp (by omega), hg p hp]
  · rw [if_neg (by decide), if_neg (by decide), if_neg (by decide), if_pos (by decide), M_unionsOf W F hp, if_neg (by decide), if_neg (by decide), if_neg (by decide), if_pos rfl]
    rfl
  · rw [if_neg (by decide), if_neg (by decide), if_neg (by decide), if_neg (by decide), if_pos (by decide), M_childrenOf W F hp, if_neg (by decide), if_neg (by decide), if_neg (by decide), if_neg (by decide), if_pos rfl]
    simp only [ob]
    rw [M_count]
  · rw [if_neg (by decide), if_neg (by decide), if_neg (by decide), if_neg (by decide), if_neg (by decide), if_pos (by decide), M_ancestorMask W AN F hp, if_neg (by decide), if_neg (by decide), if_neg (by decide), if_neg (by decide), if_neg (by decide), if_pos rfl]
    simp only [ob]
    rw [M_count]
  · rw [if_neg (by decide), if_neg (by decide), if_neg (by decide), if_neg (by decide), if_neg (by decide), if_neg (by decide), M_desc W AN F hp, if_neg (by decide), if_neg (by decide), if_neg (by decide), if_neg (by decide), if_neg (by decide), if_neg (by decide)]
    simp only [ob]
    rw [M_count]
theorem num_err (H : BUF B L bs bf) (P : PT B L s e k) (hc : ¬ code = 0) (errorAt v1 v2 : Int32) : p10_readNumber (nI L) (nI e) (nI s) (nI k) code errorAt bf v1 v2 = some (v1, nI s, code, errorAt, nI e, nI k) := by
  unfold p10_readNumber p10_readNumber_J25 p10_readNumber_J59
  rw [if_neg hc, checkE hc]
  simp only [lb_eq, uc2]
  rw [M_value H P]
  simp only [ob]
  rw [if_neg hc, checkE hc]
  simp only []
  rw [M_advE hc]
  simp only [uc3]
  rw [if_neg hc]
theorem emitE {cc v : Int32} (hc : ¬ code = 0) : p10_emit code cc cd v = some (cc, cd) := by
  unfold p10_emit
  rw [if_neg hc]
theorem emit0 {c : Nat} {v : Int32} (hc : c < 200) : p10_emit 0 (nI c) cd v = some (nI (c + 1), upd cd c v) := by
  unfold p10_emit
  rw [if_pos rfl, gd_in hc (by omega), nI_clamp (by omega)]
  simp only [lb_eq]
  rw [n1, nI_add]
theorem take_ok (hn : n ≤ 16) {w : Nat} (hw : w < 7) : ∃ t, p5_takeProperty 16 (nI n) p1 q (nI w) = some t ∧ ∀ p, p < n → t p = q (w * 16 + p) := by
  obtain ⟨z, e1, h1⟩ := loop_all (fun t i (z : Nat → Int32) => p5_takeProperty_L2 (nI n) 16 q (nI w) t (nI i) z) n
    (fun i z => ∀ p, p < i → z p = q (w * 16 + p)) (fun z => ∀ p, p < n → z p = q (w * 16 + p)) (by
      intro t z hz
      refine ⟨z, ?_, hz⟩
      try dsimp only
      rw [p5_takeProperty_L2, p5_takeProperty_L2_B, if_pos (nI_le (Nat.le_refl _) (by omega))]) (by
      intro t i z hi hz
      refine ⟨upd z i (q (w * 16 + i)), ?_, fun p hp => ?_⟩
      · try dsimp only
        rw [p5_takeProperty_L2, p5_takeProperty_L2_B, if_neg (nI_ge hi (by omega)), n16, nI_mul, nI_add, at_in (by omega) (by omega), put_in (by omega) (by omega)]
        simp only [lb_eq]
        rw [n1, nI_add]
      · by_cases ep : p = i
        · rw [ep, upd_eq]
        · rw [upd_ne ep]; exact hz p (by omega)) FU 0 p1 (Nat.zero_le _) (by show n - 0 < 1024; omega) (fun p hp => absurd hp (Nat.not_lt_zero _))
  have e1' : p5_takeProperty_L2 (nI n) 16 q (nI w) FU (nI 0) p1 = some z := e1
  refine ⟨z, ?_, h1⟩
  unfold p5_takeProperty
  rw [n0, e1']
  rfl
theorem J212_err (hc : ¬ code = 0) (kind start stop value errS : Int32) (p1 : Nat → Int32) : p5_readValue_J181 bs kind (nI L) start stop value code errS p1 = some (code, errS, kind, start, stop, value, p1) := by
  unfold p5_readValue_J181 p5_readValue_J212
  rw [failE hc]
  simp only [lb_eq, uc2]
  rw [X_advE hc]
  simp only [ob, uc4]
  split
  · split <;> rfl
  · rfl
theorem value_err (H : BUF B L bs bf) (P : PT B L s e k) (hn : n ≤ 16) (hc : ¬ code = 0) (value errS errorAt cc : Int32) :
    (∃ p1', p5_readValue 16 (nI L) (nI k) (nI s) (nI e) value code errS (nI n) bs p1 q = some (code, errS, nI k, nI s, nI e, value, p1')) ∧
      p10_compileValue (nI L) (nI e) (nI s) (nI k) code errorAt cc bf cd = some (nI s, cc, cd, code, errorAt, nI e, nI k) := by
  constructor
  · unfold p5_readValue
    obtain ⟨f, e0, -⟩ := X9_fill (N := 16) (f := p1) (x := value) (by omega)
    obtain ⟨t0, a0, -⟩ := take_ok (n := n) (p1 := p1) (q := q) hn (w := 0) (by omega)
    obtain ⟨t1, a1, -⟩ := take_ok (n := n) (p1 := p1) (q := q) hn (w := 1) (by omega)
    obtain ⟨t2, a2, -⟩ := take_ok (n := n) (p1 := p1) (q := q) hn (w := 2) (by omega)
    obtain ⟨t3, a3, -⟩ := take_ok (n := n) (p1 := p1) (q := q) hn (w := 3) (by omega)
    obtain ⟨t4, a4, -⟩ := take_ok (n := n) (p1 := p1) (q := q) hn (w := 4) (by omega)
    obtain ⟨t5, a5, -⟩ := take_ok (n := n) (p1 := p1) (q := q) hn (w := 5) (by omega)
    obtain ⟨t6, a6, -⟩ := take_ok (n := n) (p1 := p1) (q := q) hn (w := 6) (by omega)
    obtain ⟨r0, w0, -, -⟩ := isWord_ok H P 0
    obtain ⟨r1, w1, -, -⟩ := isWord_ok H P 5
    obtain ⟨r2, w2, -, -⟩ := isWord_ok H P 6
    obtain ⟨r3, w3, -, -⟩ := isWord_ok H P 7
    obtain ⟨r4, w4, -, -⟩ := isWord_ok H P 8
    obtain ⟨r5, w5, -, -⟩ := isWord_ok H P 9
    obtain ⟨r6, w6, -, -⟩ := isWord_ok H P 10
    rw [e0, w0, w1, w2, w3, w4, w5, w6, show p5_takeProperty 16 (nI n) p1 q 0 = _ from a0, show p5_takeProperty 16 (nI n) p1 q 1 = _ from a1, show p5_takeProperty 16 (nI n) p1 q 2 = _ from a2, show p5_takeProperty 16 (nI n) p1 q 3 = _ from a3, show p5_takeProperty 16 (nI n) p1 q 4 = _ from a4, show p5_takeProperty 16 (nI n) p1 q 5 = _ from a5, show p5_takeProperty 16 (nI n) p1 q 6 = _ from a6, failE hc]
    simp only [ob, lb_eq, uc2]
    split
    · exact ⟨_, J212_err hc _ _ _ _ _ _⟩
    · cases r0 with
      | true => exact ⟨_, J212_err hc _ _ _ _ _ _⟩
      | false =>
        cases r1 with
        | true => exact ⟨_, J212_err hc _ _ _ _ _ _⟩
        | false =>
          cases r2 with
          | true => exact ⟨_, J212_err hc _ _ _ _ _ _⟩
          | false =>
            cases r3 with
            | true => exact ⟨_, J212_err hc _ _ _ _ _ _⟩
            | false =>
              cases r4 with
              | true => exact ⟨_, J212_err hc _ _ _ _ _ _⟩
              | false =>
                cases r5 with
                | true => exact ⟨_, J212_err hc _ _ _ _ _ _⟩
                | false =>
                  cases r6 with
                  | true => exact ⟨_, J212_err hc _ _ _ _ _ _⟩
                  | false => exact ⟨_, J212_err hc _ _ _ _ _ _⟩
  · unfold p10_compileValue p10_compileValue_J15
    rw [if_neg hc, num_err H P hc]
    simp only [ob, uc6]
    rw [emitE hc]
    rfl
end QVAL
