/-! queries: what the codes answer; refused texts -/
section QEVAL
variable {n c' : Nat} {ge cd : Nat → Int32} {fam : Nat → Int64} {r : Int32}
theorem gd0200 {α : Type} {k : Option α} : gd (0 : Int32) 200 k = k := by rw [n0, gd_in (by omega) (by omega)]
theorem holds_ok (E : EXPR n fam ge 0 c' cd r) (hc : c' ≤ 200) {p : Nat} (hp : p < n) (st : Nat → Int64) : ∃ st', p10_holdsFor (nI c') cd fam ge st (nI p) = some (bt r p, st') := by
  have h0 := E.1
  obtain ⟨st1, e1, v1, -⟩ := E.2.2 p hp cd c' (fun _ _ _ => rfl) (Nat.le_refl _) hc 0 st (1024 - c') (Nat.le_refl _)
  obtain ⟨t, ht⟩ : ∃ t, 1024 - c' = t + 1 := ⟨1024 - c' - 1, by omega⟩
  refine ⟨st1, ?_⟩
  have hF : FU = 1024 - c' + (c' - 0) := by show 1024 = _; omega
  have e2 : p10_holdsFor_L4 (nI c') cd fam ge (nI p) FU 0 0 st = some st1 := by
    show p10_holdsFor_L4 (nI c') cd fam ge (nI p) FU (nI 0) (nI 0) st = some st1
    rw [hF, e1, ht, p10_holdsFor_L4, p10_holdsFor_L4_B, if_pos (nI_le (Nat.le_refl _) (by omega))]
  have v2 : st1 (0 : Int32).toNatClampNeg = if bt r p then 1 else 0 := v1
  unfold p10_holdsFor p10_holdsFor_J123
  rw [e2]
  simp only [ob]
  rw [gd0200, v2]
  cases bt r p
  · rfl
  · rfl
theorem qmany_ok (F : p10_persons fam = some (nI n)) (hn : n ≤ 16) (E : EXPR n fam ge 0 c' cd r) (hc : c' ≤ 200) (st : Nat → Int64) : ∃ st', p10_query_L130 (nI c') cd fam ge false FU 0 0 st = some (.inr (nI (cnt (bt r) n), st')) := by
  obtain ⟨z, e1, st', rfl⟩ := loop_all (fun t i (z : Int32 × (Nat → Int64)) => p10_query_L130 (nI c') cd fam ge false t z.1 (nI i) z.2) n
    (fun i z => z.1 = nI (cnt (bt r) i)) (fun z => ∃ st', z = .inr (nI (cnt (bt r) n), st')) (by
      intro t z hz
      refine ⟨_, ?_, z.2, rfl⟩
      try dsimp only
      rw [p10_query_L130, p10_query_L130_B, F]
      simp only [ob]
      rw [if_pos (nI_le (Nat.le_refl _) (by omega)), hz]) (by
      intro t i z hi hz
      obtain ⟨st', e2⟩ := holds_ok E hc hi z.2
      refine ⟨(nI (cnt (bt r) (i + 1)), st'), ?_, rfl⟩
      try dsimp only
      rw [p10_query_L130, p10_query_L130_B, F]
      simp only [ob]
      rw [if_neg (nI_ge hi (by omega)), e2, hz]
      simp only [uc2]
      rw [cnt_s]
      cases hb : bt r i with
      | true =>
        rw [cond_true, cond_false]
        simp only [lb_eq]
        rw [n1, nI_add, nI_add, if_pos trivial]
      | false =>
        rw [cond_false]
        simp only [lb_eq]
        rw [n1, nI_add, if_neg (by decide)]
        rfl) FU 0 (0, st) (Nat.zero_le _) (by show n - 0 < 1024; omega) rfl
  exact ⟨st', e1⟩
theorem qfirst_ok (F : p10_persons fam = some (nI n)) (hn : n ≤ 16) (E : EXPR n fam ge 0 c' cd r) (hc : c' ≤ 200) : ∀ d i fuel (st : Nat → Int64), i + d = n → d < fuel → (∀ j, j < i → bt r j = false) →
    (∃ p st', p < n ∧ bt r p = true ∧ (∀ j, j < p → bt r j = false) ∧ p10_query_L130 (nI c') cd fam ge true fuel 0 (nI i) st = some (.inl (nI p, st'))) ∨ ((∀ j, j < n → bt r j = false) ∧ ∃ st', p10_query_L130 (nI c') cd fam ge true fuel 0 (nI i) st = some (.inr (0, st'))) := by
  intro d
  induction d with
  | zero =>
    intro i fuel st hi hf hb
    obtain ⟨t, rfl⟩ : ∃ t, fuel = t + 1 := ⟨fuel - 1, by omega⟩
    refine Or.inr ⟨fun j hj => hb j (by omega), st, ?_⟩
    rw [p10_query_L130, p10_query_L130_B, F]
    simp only [ob]
    rw [if_pos (nI_le (by omega) (by omega))]
  | succ d ih =>
    intro i fuel st hi hf hb
    obtain ⟨t, rfl⟩ : ∃ t, fuel = t + 1 := ⟨fuel - 1, by omega⟩
    obtain ⟨st', e2⟩ := holds_ok E hc (show i < n by omega) st
    have hs : p10_query_L130 (nI c') cd fam ge true (t + 1) 0 (nI i) st = cond (bt r i) (some (.inl (nI i, st'))) (p10_query_L130 (nI c') cd fam ge true t 0 (nI (i + 1)) st') := by
      rw [p10_query_L130, p10_query_L130_B, F]
      simp only [ob]
      rw [if_neg (nI_ge (by omega) (by omega)), e2]
      simp only [uc2, lb_eq, cond_true]
      rw [n1, nI_add]
    cases hbi : bt r i with
    | true =>
      refine Or.inl ⟨i, st', by omega, hbi, hb, ?_⟩
      rw [hs, hbi, cond_true]
    | false =>
      rw [hs, hbi, cond_false]
      exact ih (i + 1) t st' (by omega) (by omega) (fun j hj => by
        by_cases q : j = i
        · rw [q]; exact hbi
        · exact hb j (by omega))
theorem firstOf_loop : ∀ d i fuel, i + d = 16 → d < fuel → (∀ j, j < i → bt r j = false) →
    (∃ p, p < 16 ∧ bt r p = true ∧ (∀ j, j < p → bt r j = false) ∧ p5_firstOf_L2 r fuel (nI i) = some (.inl (nI p))) ∨ ((∀ j, j < 16 → bt r j = false) ∧ p5_firstOf_L2 r fuel (nI i) = some (.inr ())) := by
  intro d
  induction d with
  | zero =>
    intro i fuel hi hf hb
    obtain ⟨t, rfl⟩ : ∃ t, fuel = t + 1 := ⟨fuel - 1, by omega⟩
    refine Or.inr ⟨fun j hj => hb j (by omega), ?_⟩
    rw [p5_firstOf_L2, p5_firstOf_L2_B, if_pos (show (16 : Int32) ≤ nI i from nI_le (a := 16) (by omega) (by omega))]
  | succ d ih =>
    intro i fuel hi hf hb
    obtain ⟨t, rfl⟩ : ∃ t, fuel = t + 1 := ⟨fuel - 1, by omega⟩
    rw [p5_firstOf_L2, p5_firstOf_L2_B, if_neg (show ¬ (16 : Int32) ≤ nI i from nI_ge (b := 16) (by omega) (by omega))]
    have hone := bt_one (x := r) (b := p9_bit (nI i)) (p := i) (fun q => bt_bit (by omega)) (by omega)
    cases hbi : bt r i with
    | true =>
      refine Or.inl ⟨i, by omega, hbi, hb, ?_⟩
      rw [if_neg (fun z => by rw [hone.mp z] at hbi; exact Bool.noConfusion hbi)]
    | false =>
      rw [if_pos (hone.mpr hbi)]
      simp only [lb_eq]
      rw [n1, nI_add]
      exact ih (i + 1) t (by omega) (by omega) (fun j hj => by
        by_cases q : j = i
        · rw [q]; exact hbi
        · exact hb j (by omega))
end QEVAL
def QZ (zc : Int32 × Int32 × Int32 × Int32 × Int32 × Int32 × Int32 × Int32 × Int32 × (Nat → Int32) × (Nat → Int32) × (Nat → Int32))
    (zm : Int32 × Int32 × Int32 × Int32 × (Nat → Int32) × Int32 × Int32 × Int32 × (Nat → Int32) × (Nat → Int32) × Int32 × Int32 × Int32 × Int32 × (Nat → Int64) × Int32 × Int32) : Prop :=
  zc.1 = zm.1 ∧ zc.2.2.1 = zm.2.2.2.2.2.2.2.1 ∧ zc.2.2.2.1 = 0 ∧ zm.2.2.1 = 0 ∧ zm.2.2.2.2.2.2.2.2.2.2.2.2.2.2.2.1 = 0
section QEND
variable {B : Nat → Nat} {L : Nat} {bs bf : Nat → Int32} {n u : Nat} {pr a b g : Nat → Nat} {an : Nat → Nat → Bool} {yr : Nat → Int32} {lc : Nat → Nat} {lt : Nat → Nat → Nat} {ge q cd gM lM : Nat → Int32} {fam st : Nat → Int64} {s e k c' : Nat} {value code errS errorAt r R : Int32} {lv rv : Nat → Int32}
theorem J77_err (hc : ¬ code = 0) (v2 : Bool) (v3 len kind start stop value errS : Int32) (lv q rv : Nat → Int32) : p5_read_J77 v2 v3 0 len kind start stop value code errS lv q rv = some (-1000000000 - code, code, errS, 0, kind, len, start, stop, value, lv, q, rv) := by
  unfold p5_read_J77
  rw [fineF hc, cond_false]
theorem J105_err (hc : ¬ code = 0) (v2 : Bool) (limit next begins token errorAt nested cc : Int32) : p10_query_J105 fam gM lM R st v2 0 limit next begins token code errorAt nested cc cd = some (-1000000000 - code, begins, 0, cc, cd, code, errorAt, errorAt, gM, lM, limit, nested, next, R, st, 0, token) := by
  unfold p10_query_J105 p10_finish
  rw [if_neg hc]
  simp only [lb_eq, uc3]
  rw [if_neg hc]
theorem end_fine {lM' : Nat → Int32} {R' : Int32} (F : p10_persons fam = some (nI n)) (hn : n ≤ 16) (hG : p10_layGenerations fam gM lM = some (ge, lM', R')) (E : EXPR n fam ge 0 c' cd r) (hc : c' ≤ 200) (many : Bool) (len kind start stop value limit next begins token errorAt nested : Int32) (lv q rv : Nat → Int32) :
    ∃ zc zm, p5_read_J77 many r 0 len kind start stop value 0 (-1) lv q rv = some zc ∧ p10_query_J105 fam gM lM R st (!many) 0 limit next begins token 0 errorAt nested (nI c') cd = some zm ∧ QZ zc zm := by
  unfold p5_read_J77 p10_query_J105 p10_finish
  rw [fineT, cond_true, if_pos rfl]
  simp only [lb_eq, uc3]
  rw [if_pos trivial, hG]
  simp only [ob, uc3]
  have hb : ∀ j, n ≤ j → bt r j = false := E.2.1
  cases many with
  | true =>
    obtain ⟨st', e1⟩ := qmany_ok F hn E hc st
    have hr : r = mkm (bt r) := bt_ext fun j _ => by
      rw [bt_mkm]
      by_cases hj : j < 16
      · rw [decide_eq_true hj, Bool.true_and]
      · rw [decide_eq_false hj, Bool.false_and, hb j (by omega)]
    have hcn : cnt (bt r) 16 = cnt (bt r) n := cnt_ext0 (by omega) (fun j h1 _ => hb j h1)
    have hcount : pJ_bitCount r = nI (cnt (bt r) n) := by
      rw [← hcn]
      have := X_count (bt r)
      rw [← hr] at this
      exact this
    rw [cond_true, Bool.not_true, e1]
    simp only [os, uc2]
    unfold p10_query_J167
    rw [cond_false, hcount]
    exact ⟨_, _, rfl, rfl, rfl, rfl, rfl, rfl, rfl⟩
  | false =>
    rw [cond_false, Bool.not_false]
    unfold p5_firstOf
    rcases firstOf_loop (r := r) 16 0 FU rfl (by decide) (fun j hj => absurd hj (Nat.not_lt_zero _)) with ⟨p, hp, h1, h2, h3⟩ | ⟨h1, h3⟩
    · have h3' : p5_firstOf_L2 r FU 0 = some (.inl (nI p)) := h3
      rw [h3']
      rcases qfirst_ok F hn E hc n 0 FU st (Nat.zero_add _) (by show n < 1024; omega) (fun j hj => absurd hj (Nat.not_lt_zero _)) with ⟨p', st', hp', k1, k2, k3⟩ | ⟨k1, -⟩
      · have k3' : p10_query_L130 (nI c') cd fam ge true FU 0 0 st = some (.inl (nI p', st')) := k3
        have hpp : p = p' := by
          rcases Nat.lt_trichotomy p p' with h | h | h
          · rw [k2 p h] at h1; exact Bool.noConfusion h1
          · exact h
          · rw [h2 p' h] at k1; exact Bool.noConfusion k1
        subst hpp
        rw [k3']
        exact ⟨_, _, rfl, rfl, rfl, rfl, rfl, rfl, rfl⟩
      · exfalso
        by_cases hpn : p < n
        · rw [k1 p hpn] at h1; exact Bool.noConfusion h1
        · rw [hb p (by omega)] at h1; exact Bool.noConfusion h1
    · have h3' : p5_firstOf_L2 r FU 0 = some (.inr ()) := h3
      rw [h3']
      rcases qfirst_ok F hn E hc n 0 FU st (Nat.zero_add _) (by show n < 1024; omega) (fun j hj => absurd hj (Nat.not_lt_zero _)) with ⟨p', st', hp', k1, k2, k3⟩ | ⟨k1, st', k3⟩
      · exfalso
        rw [h1 p' (by omega)] at k1
        exact Bool.noConfusion k1
      · have k3' : p10_query_L130 (nI c') cd fam ge true FU 0 0 st = some (.inr (0, st')) := k3
        rw [k3']
        exact ⟨_, _, rfl, rfl, rfl, rfl, rfl, rfl, rfl⟩
theorem readTest_err (H : BUF B L bs bf) (P : PT B L s e k) (hn : n ≤ 16) (hc : ¬ code = 0) (value errS : Int32) (lv rv : Nat → Int32) :
    ∃ r lv' rv', p5_readTest (p5_readFactor 64) (nI L) (nI k) (nI s) (nI e) value code errS (nI n) bs lv q rv 0 = some (r, code, errS, nI k, nI s, nI e, value, lv', rv') := by
  have hF : ∃ r lv' rv', p5_readFactor 64 (nI L) (nI k) (nI s) (nI e) value code errS (nI n) bs lv q rv 0 = some (r, code, errS, nI k, nI s, nI e, value, lv', rv') := by
    show ∃ r lv' rv', p5_readFactor_O (p5_readFactor 63) (nI L) (nI k) (nI s) (nI e) value code errS (nI n) bs lv q rv 0 = some (r, code, errS, nI k, nI s, nI e, value, lv', rv')
    obtain ⟨r4, w4, -, -⟩ := isWord_ok H P 4
    have hJ : ∀ v2, p5_readFactor_J31 (nI n) bs code errS (nI k) (nI L) (nI s) (nI e) value (p5_readFactor 63) lv q rv 0 v2 = some (0, code, errS, nI k, nI s, nI e, value, lv, rv) := by
      intro v2
      unfold p5_readFactor_J31 p5_readFactor_J45
      rw [if_pos (show (0 : Int32) < 6 by decide), fineF hc, cond_false]
    unfold p5_readFactor_O
    rw [w4]
    simp only [ob]
    rw [hJ]
    cases r4 with
    | true => exact ⟨_, _, _, rfl⟩
    | false =>
      cases p3_isSign (nI k) value 40 with
      | true => exact ⟨_, _, _, rfl⟩
      | false =>
        rw [cond_false, cond_false]
        obtain ⟨⟨p1', e1⟩, -⟩ := value_err (cd := lv) (p1 := lv) (q := q) H P hn hc value errS errS 0
        obtain ⟨rv', w1⟩ := J60_err (q := q) H P hn hc value value errS p1' rv
        unfold p5_readComparison
        rw [e1]
        simp only [ob, uc7]
        rw [failE hc]
        simp only [lb_eq, uc2]
        rw [w1]
        have hz : ∀ (b1 b2 b3 : Bool) (y : Option QX), cond b1 y (cond b2 y (cond b3 y y)) = y := fun b1 b2 b3 y => by cases b1 <;> cases b2 <;> cases b3 <;> rfl
        rw [hz]
        exact ⟨_, _, _, rfl⟩
  obtain ⟨r, lv', rv', e1⟩ := hF
  refine ⟨0 ||| r, lv', rv', ?_⟩
  unfold p5_readTest
  rw [e1]
  simp only [ob, uc9]
  rw [show FU = 1023 + 1 from rfl, p5_readTest_L11, p5_readTest_L11_B, fineF hc, cond_false, ite_self]
  rfl
theorem compTest_err (H : BUF B L bs bf) (P : PT B L s e k) (hc : ¬ code = 0) (errorAt nest cc : Int32) (cd : Nat → Int32) :
    p10_compileTest (p10_compileFactor 64) (nI L) (nI e) (nI s) (nI k) code errorAt nest cc bf cd = some (nI s, cc, cd, code, errorAt, nest, nI e, nI k) := by
  have hF : p10_compileFactor 64 (nI L) (nI e) (nI s) (nI k) code errorAt nest cc bf cd = some (nI s, cc, cd, code, errorAt, nest, nI e, nI k) := by
    show p10_compileFactor_O (p10_compileFactor 63) (nI L) (nI e) (nI s) (nI k) code errorAt nest cc bf cd = _
    obtain ⟨-, e1⟩ := value_err (n := 0) (cd := cd) (p1 := cd) (q := cd) H P (by omega) hc 0 0 errorAt cc
    unfold p10_compileFactor_O
    rw [M_isWordE hc, symE hc, e1]
    simp only [ob, uc7, cond_false]
    rw [symE hc, symE hc]
    simp only [ob, cond_false]
    exact J122_err H P hc _ _ _ _
  have h1 : ∀ f, p10_compileConjunction_L4 (p10_compileFactor 64) bf (nI L) (f + 1) (nI s) cc cd code errorAt nest (nI e) (nI k) = some (nI s, cc, cd, code, errorAt, nest, nI e, nI k) := by
    intro f
    rw [p10_compileConjunction_L4, p10_compileConjunction_L4_B, acc_err hc]
    rfl
  have h2 : ∀ f, p10_compileTest_L4 (p10_compileFactor 64) bf (nI L) (f + 1) (nI s) cc cd code errorAt nest (nI e) (nI k) = some (nI s, cc, cd, code, errorAt, nest, nI e, nI k) := by
    intro f
    rw [p10_compileTest_L4, p10_compileTest_L4_B, acc_err hc]
    rfl
  unfold p10_compileTest p10_compileConjunction
  rw [hF]
  simp only [ob, uc8]
  rw [show FU = 1023 + 1 from rfl, h1]
  simp only [ob, uc8, p10_compileConjunction_J27]
  rw [h2]
  rfl
end QEND
