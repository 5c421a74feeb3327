/-! a person read -/
/-- a family read so far, on both sides -/
def DD (pc uc : Int32) (lA letters py pu fp sp uY : Nat → Int32) (fam : Nat → Int64) : Prop :=
  ∃ (n u : Nat) (pr a b g : Nat → Nat) (an : Nat → Nat → Bool) (lc : Nat → Nat) (lt : Nat → Nat → Nat) (yr uy : Nat → Int32), pc = nI n ∧ uc = nI u ∧ WF n u pr a b g ∧ ANC n pr a b an ∧ PC n lc lt ∧ PX n lc lt yr lA letters py ∧ FX n u pr a b pu fp sp ∧ (∀ w, w < u → uY w = uy w) ∧ MX n u pr a b fam ∧ PM n lc lt yr fam ∧ ∀ w, w < u → fam (66 + 3 * w + 2) = (uy w).toInt64
theorem gd0130 {α : Type} {k : Option α} : gd (0 : Int32) 130 k = k := by rw [n0, gd_in (by omega) (by omega)]
def FXW (pc uc : Int32) (pu fp sp : Nat → Int32) : Prop := ∃ (n u : Nat) (pr a b g : Nat → Nat) (an : Nat → Nat → Bool), pc = nI n ∧ uc = nI u ∧ WF n u pr a b g ∧ ANC n pr a b an ∧ FX n u pr a b pu fp sp
theorem DD.fxw {pc uc : Int32} {lA letters py pu fp sp uY : Nat → Int32} {fam : Nat → Int64} (D : DD pc uc lA letters py pu fp sp uY fam) : FXW pc uc pu fp sp := by
  obtain ⟨n, u, pr, a, b, g, an, lc, lt, yr, uy, h1, h2, W, AN, hC, hX, F, -⟩ := D
  exact ⟨n, u, pr, a, b, g, an, h1, h2, W, AN, F⟩
section RPERS
variable {B : Nat → Nat} {L lo : Nat} {bs bf : Nat → Int32} {n u : Nat} {pr a b g lc : Nat → Nat} {an : Nat → Nat → Bool} {lt : Nat → Nat → Nat} {yr uy lA letters py pu fp sp uY : Nat → Int32} {fam : Nat → Int64} {s e k c : Nat} {kind start stop value code errS next begins token error errorAt : Int32}
theorem X8_letters (H : BUF B L bs bf) (P : PT B L s e 1) (h8 : e - s ≤ 8) (hn : n < 16) (h0 : lA n = 0) :
    ∃ lA' le', p8_readPerson_L53 bs (nI 1) (nI s) (nI e) (nI n) FU 0 lA letters = some (lA', le') ∧ lA' n = nI (e - s) ∧ (∀ q, q ≠ n → lA' q = lA q) ∧ (∀ j, j < e - s → le' (n * 8 + j) = nI (96 + tl B s j)) ∧ ∀ q, q < n * 8 → le' q = letters q := by
  have hL := H.1
  obtain ⟨p1, p2, p3, p4, p5, p6, p7⟩ := P
  obtain ⟨z, e1, h1⟩ := loop_all (fun t i (z : (Nat → Int32) × (Nat → Int32)) => p8_readPerson_L53 bs (nI 1) (nI s) (nI e) (nI n) t (nI i) z.1 z.2) (e - s)
    (fun i z => z.1 n = nI i ∧ (∀ q, q ≠ n → z.1 q = lA q) ∧ (∀ j, j < i → z.2 (n * 8 + j) = nI (96 + tl B s j)) ∧ ∀ q, q < n * 8 → z.2 q = letters q)
    (fun z => z.1 n = nI (e - s) ∧ (∀ q, q ≠ n → z.1 q = lA q) ∧ (∀ j, j < e - s → z.2 (n * 8 + j) = nI (96 + tl B s j)) ∧ ∀ q, q < n * 8 → z.2 q = letters q) (by
      intro t z hz
      refine ⟨(z.1, z.2), ?_, hz⟩
      try dsimp only
      rw [p8_readPerson_L53, p8_readPerson_L53_B]
      unfold p3_wordLength
      rw [if_pos n1.symm, nI_sub p1, if_pos (nI_le (Nat.le_refl _) (by omega))]) (by
      intro t i z hi hz
      obtain ⟨z1, z2, z3, z4⟩ := hz
      have hb := H.2 (s + i) (by omega)
      have h97 := p5 rfl (s + i) (by omega) (by omega)
      refine ⟨(upd z.1 n (nI (i + 1)), upd z.2 (n * 8 + i) (nI (B (s + i)))), ?_, upd_eq, fun q hq => ?_, fun j hj => ?_, fun q hq => ?_⟩
      · try dsimp only
        rw [p8_readPerson_L53, p8_readPerson_L53_B]
        unfold p3_wordLength p1_addLetter p3_letter
        rw [if_pos n1.symm, nI_sub p1, if_neg (nI_ge hi (by omega)), at_in (by omega) (by omega), z1, nI_add, at_in (by omega) (by omega), hb.2.1]
        simp only [lb_eq, uc2]
        rw [n8, nI_mul, nI_add, put_in (by omega) (by omega), put_in (by omega) (by omega), n1, nI_add]
      · dsimp only
        rw [upd_ne hq]; exact z2 q hq
      · dsimp only
        by_cases q : j = i
        · rw [q, upd_eq]
          congr 1
          unfold tl; omega
        · rw [upd_ne (by omega)]; exact z3 j (by omega)
      · dsimp only
        rw [upd_ne (by omega)]; exact z4 q hq) FU 0 (lA, letters) (Nat.zero_le _) (by show e - s - 0 < 1024; omega) ⟨h0, fun _ _ => rfl, fun j hj => absurd hj (Nat.not_lt_zero _), fun _ _ => rfl⟩
  exact ⟨z.1, z.2, e1, h1⟩
/-- the family with one person more -/
theorem add_person (W : WF n u pr a b g) (AN : ANC n pr a b an) (hn : n < 16) : WF (n + 1) u (updN pr n 12) a b (updN g n 0) ∧ ANC (n + 1) (updN pr n 12) a b (fun p => if p = n then fun _ => false else an p) := by
  have hne : ∀ p, p < n → pr p < 12 → a (pr p) ≠ n ∧ b (pr p) ≠ n := fun p hp c => by have := W.up hp c; omega
  refine ⟨⟨by omega, W.u12, fun p hp => ?_, fun w hw => ?_, fun p hp => ?_, fun p hp => ?_⟩, fun p hp q => ?_⟩
  · unfold updN
    by_cases e : p = n
    · rw [if_pos e]; exact Or.inl rfl
    · rw [if_neg e]; exact W.2.2.1 p (by omega)
  · have := W.par hw; omega
  · unfold updN
    by_cases e : p = n
    · rw [if_pos e, if_pos e, if_neg (by omega)]
    · rw [if_neg e, if_neg e]
      by_cases c : pr p < 12
      · have h := hne p (by omega) c
        rw [if_pos c, if_neg h.1, if_neg h.2]
        exact W.gen (by omega) c
      · rw [if_neg c]; exact W.gen0 (by omega) c
  · unfold updN
    by_cases e : p = n
    · rw [if_pos e]; omega
    · rw [if_neg e]; have := W.glt (p := p) (by omega); omega
  · unfold updN
    by_cases e : p = n
    · simp only [if_pos e]
      rw [if_neg (by omega)]
    · simp only [if_neg e]
      by_cases c : pr p < 12
      · have h := hne p (by omega) c
        rw [if_pos c, if_neg h.1, if_neg h.2]
        exact AN.par (by omega) c
      · rw [if_neg c]; exact AN.none (by omega) c
theorem J39_eq (H : BUF B L bs bf) {next begins token error errorAt : Int32} : p10_readClause_J39 bf (nI L) next begins token error errorAt fam = ob (p10_expect (nI L) next begins token error errorAt bf 59) (uc5 fun b2 e2 a2 n2 t2 => some (b2, e2, a2, fam, n2, t2)) := rfl
theorem pers_err (hc : ¬ code = 0) (fam : Nat → Int64) (s2 k2 e2 errorAt : Int32) : p10_readPerson_J62 bf fam (nI L) e2 s2 k2 code errorAt = some (s2, code, errorAt, fam, e2, k2) := by
  unfold p10_readPerson_J62 p10_readPerson_J87
  rw [if_neg hc, checkE hc]
  simp only [lb_eq, uc2]
  rw [if_neg hc]
theorem nmb_congr {l l' : Nat → Nat} : ∀ k, (∀ i, i < k → l i = l' i) → nmb l k = nmb l' k := by
  intro k
  induction k with
  | zero => intro _; rfl
  | succ k ih =>
    intro h
    show nmb l k * 27 + l k = nmb l' k * 27 + l' k
    rw [ih (fun j hj => h j (by omega)), h k (by omega)]
theorem DD_add (W : WF n u pr a b g) (AN : ANC n pr a b an) (hC : PC n lc lt) (hX : PX n lc lt yr lA letters py) (F : FX n u pr a b pu fp sp) (hY : ∀ w, w < u → uY w = uy w) (FM : MX n u pr a b fam) (PMf : PM n lc lt yr fam) (hUy : ∀ w, w < u → fam (66 + 3 * w + 2) = (uy w).toInt64) (hn : n < 16) (P1 : PT B L s e 1) (h8 : e - s ≤ 8)
    {lA' le' : Nat → Int32} {r : Int32} (z1 : lA' n = nI (e - s)) (z2 : ∀ q, q ≠ n → lA' q = upd lA n 0 q) (z3 : ∀ j, j < e - s → le' (n * 8 + j) = nI (96 + tl B s j)) (z4 : ∀ q, q < n * 8 → le' q = letters q) {fam' : Nat → Int64}
    (hf : fam' = vp_updL (vp_updL (vp_updL (vp_updL (vp_updL fam (2 + 4 * n + 2) (lN (nmb (tl B s) (e - s)))) (2 + 4 * n + 3) (lN (e - s))) (2 + 4 * n + 1) (-1)) (2 + 4 * n) r.toInt64) 0 (lN (n + 1))) :
    DD (nI (n + 1)) (nI u) lA' le' (upd (upd py n 0) n r) (upd pu n (-1)) fp sp uY fam' := by
  obtain ⟨p1, p2, p3, p4, p5, p6, p7⟩ := P1
  have hu := W.u12
  have htl : ∀ i, i < e - s → tl B s i < 27 ∧ 1 ≤ tl B s i := fun i h => by have := p5 rfl (s + i) (by omega) (by omega); unfold tl; omega
  obtain ⟨W', AN'⟩ := add_person W AN hn
  refine ⟨n + 1, u, updN pr n 12, a, b, updN g n 0, _, updN lc n (e - s), fun p => if p = n then (fun i => if i < e - s then tl B s i else 1) else lt p, upd yr n r, uy, rfl, rfl, W', AN', ⟨fun p hp => ?_, fun p hp i hi => ?_⟩, ⟨fun p hp => ?_, fun p hp i hi => ?_, fun p hp => ?_⟩, ⟨fun p hp => ?_, F.2⟩, hY, ⟨?_, ?_, fun p hp => ?_, fun w hw => ?_⟩, ⟨fun p hp => ?_, fun p hp => ?_, fun p hp => ?_⟩, fun w hw => ?_⟩
  · unfold updN
    by_cases q : p = n
    · rw [if_pos q]; exact h8
    · rw [if_neg q]; exact hC.1 p (by omega)
  · by_cases q : p = n
    · simp only [if_pos q]
      by_cases q2 : i < e - s
      · rw [if_pos q2]; exact htl i q2
      · rw [if_neg q2]; omega
    · simp only [if_neg q]
      exact hC.2 p (by omega) i hi
  · unfold updN
    by_cases q : p = n
    · rw [if_pos q, q]; exact z1
    · rw [if_neg q, z2 p q, upd_ne q]; exact hX.1 p (by omega)
  · unfold updN at hi
    by_cases q : p = n
    · rw [if_pos q] at hi
      simp only [if_pos q]
      rw [if_pos hi, q]
      exact z3 i hi
    · rw [if_neg q] at hi
      simp only [if_neg q]
      have := hC.1 p (by omega)
      rw [z4 _ (by omega)]
      exact hX.2.1 p (by omega) i hi
  · by_cases q : p = n
    · rw [q, upd_eq, upd_eq]
    · rw [upd_ne q, upd_ne q, upd_ne q]; exact hX.2.2 p (by omega)
  · unfold updN
    by_cases q : p = n
    · rw [q, upd_eq, if_pos rfl]; rfl
    · rw [upd_ne q, if_neg q]; exact F.1 p (by omega)
  · rw [hf, updL_eq]
  · rw [hf, updL_ne (by omega), updL_ne (by omega), updL_ne (by omega), updL_ne (by omega), updL_ne (by omega)]; exact FM.2.1
  · unfold updN
    by_cases q : p = n
    · rw [hf, q, if_pos rfl, updL_ne (by omega), updL_ne (by omega), updL_eq]; rfl
    · rw [hf, if_neg q, updL_ne (by omega), updL_ne (by omega), updL_ne (by omega), updL_ne (by omega), updL_ne (by omega)]; exact FM.2.2.1 p (by omega)
  · rw [hf, updL_ne (by omega), updL_ne (by omega), updL_ne (by omega), updL_ne (by omega), updL_ne (by omega), updL_ne (by omega), updL_ne (by omega), updL_ne (by omega), updL_ne (by omega), updL_ne (by omega)]
    exact FM.2.2.2 w hw
  · unfold updN
    by_cases q : p = n
    · rw [hf, q, if_pos rfl, updL_ne (by omega), updL_ne (by omega), updL_ne (by omega), updL_eq]
    · rw [hf, if_neg q, updL_ne (by omega), updL_ne (by omega), updL_ne (by omega), updL_ne (by omega), updL_ne (by omega)]; exact PMf.1 p (by omega)
  · unfold updN
    by_cases q : p = n
    · rw [hf, q, if_pos rfl, updL_ne (by omega), updL_ne (by omega), updL_ne (by omega), updL_ne (by omega), updL_eq]
      simp only [if_true]
      rw [nmb_congr (l' := tl B s) _ (fun i hi => if_pos hi)]
    · rw [hf, if_neg q, updL_ne (by omega), updL_ne (by omega), updL_ne (by omega), updL_ne (by omega), updL_ne (by omega)]
      simp only [if_neg q]
      exact PMf.2.1 p (by omega)
  · by_cases q : p = n
    · rw [hf, q, updL_ne (by omega), updL_eq, upd_eq]
    · rw [hf, updL_ne (by omega), updL_ne (by omega), updL_ne (by omega), updL_ne (by omega), updL_ne (by omega), upd_ne q]; exact PMf.2.2 p (by omega)
  · rw [hf, updL_ne (by omega), updL_ne (by omega), updL_ne (by omega), updL_ne (by omega), updL_ne (by omega)]
    exact hUy w hw
theorem person_ok (H : BUF B L bs bf) (P : PT B L s e k) (D : DD (nI n) (nI u) lA letters py pu fp sp uY fam) (hn16 : n ≤ 16) (value errorAt : Int32) :
    ∃ lA' letters' pu' pc' py' code' errS' kind' start' stop' value' next' begins' token' errorAt' fam', p8_readPerson (nI L) (nI k) (nI s) (nI e) value 0 (-1) (nI n) lA letters pu py bs = some (lA', letters', pu', pc', py', code', errS', kind', start', stop', value') ∧
      ob (p10_readPerson (nI L) (nI e) (nI s) (nI k) 0 errorAt bf fam) (uc6 fun b2 e2 a2 f2 n2 t2 => p10_readClause_J39 bf (nI L) n2 b2 t2 e2 a2 f2) = some (begins', code', errorAt', fam', next', token') ∧
      SIM B L e kind' start' stop' value' code' errS' next' begins' token' code' errorAt' ∧ (code' = 0 → DD pc' (nI u) lA' letters' py' pu' fp sp uY fam') ∧ FXW pc' (nI u) pu' fp sp := by
  have hF0 := D.fxw
  obtain ⟨n', u', pr, a, b, g, an, lc, lt, yr, uy, hn', hu', W, AN, hC, hX, F, hY, FM, PMf, hUy⟩ := D
  have e1 : n' = n := ((nI_eq (by omega) (by have := W.n16; omega)).mp hn').symm
  subst e1
  clear hn'
  have hL := H.1
  have h10 : ¬ (1 : Int32) = 0 := by decide
  have h30 : ¬ (3 : Int32) = 0 := by decide
  have h40 : ¬ (4 : Int32) = 0 := by decide
  have hN : NMS n' lc lt lA letters fam := ⟨W.n16, hC, hX.1, hX.2.1, FM.1, PMf.2.1⟩
  unfold p8_readPerson p10_readPerson
  rw [M_persons FM]
  simp only [ob]
  by_cases cn : n' < 16
  case neg =>
    have g3 : ¬ nI n' < 16 := nI_nlt (b := 16) (by omega) (by omega)
    have g4 : (16 : Int32) ≤ nI n' := nI_le (a := 16) (by omega) (by omega)
    refine ⟨lA, letters, pu, nI n', py, 3, nI s, nI k, nI s, nI e, value, nI e, nI s, nI k, nI s, fam, ?_, ?_, SIM.err P (c := 3) (by omega) (by omega), fun q => absurd q h30, hF0⟩
    · rw [if_neg g3, fail0]; rfl
    · rw [if_pos g4, checkF0]
      simp only [lb_eq, uc2]
      unfold p10_readPerson_J19
      rw [M_advE h30]
      simp only [ob, uc3]
      rw [if_neg h30, checkT]
      simp only [lb_eq, uc2]
      rw [pers_err h30]
      simp only [uc6]
      unfold p10_readClause_J39
      rw [(semi_err (bs := bs) (L := L) (k2 := nI k) (s2 := nI s) (e2 := nI e) h30 0 0 0 0 0 (nI s) 59).2]
      rfl
  rw [if_pos (show nI n' < 16 from nI_lt (b := 16) cn (by omega)), if_neg (show ¬ (16 : Int32) ≤ nI n' from nI_ge (b := 16) cn (by omega)), checkT]
  simp only [lb_eq, uc2]
  obtain ⟨s1, e1, k1, v1, q1, q2, P1, V1, l1, l1'⟩ := adv_fine H P (nI k) (nI s) value (nI s) (nI k)
  have hk1 : k1 < 4 := P1.2.2.1
  unfold p10_readPerson_J19
  rw [q1, q2]
  simp only [ob, uc4, uc3, if_true]
  have herr : ∀ c, c ≤ 5 → c ≠ 0 → ob (p10_readPerson_J62 bf fam (nI L) (nI e1) (nI s1) (nI k1) (nI c) (nI s1)) (uc6 fun b2 e2 a2 f2 n2 t2 => p10_readClause_J39 bf (nI L) n2 b2 t2 e2 a2 f2) = some (nI s1, nI c, nI s1, fam, nI e1, nI k1) := by
    intro c h1 h2
    have hc := nIc h1 h2
    rw [pers_err hc]
    simp only [ob, uc6]
    unfold p10_readClause_J39
    rw [(semi_err (bs := bs) (L := L) (k2 := nI k1) (s2 := nI s1) (e2 := nI e1) hc 0 0 0 0 0 (nI s1) 59).2]
    rfl
  have hout : ∀ c, c ≤ 5 → c ≠ 0 → SIM B L e (nI k1) (nI s1) (nI e1) v1 (nI c) (nI s1) (nI e1) (nI s1) (nI k1) (nI c) (nI s1) := fun c h1 h2 => SIM.err P1 h1 h2
  have hfin : ∀ c, c ≤ 5 → c ≠ 0 → (cond (p3_isFine (nI c)) (none : Option Int32) (some 0)) = some 0 := fun c h1 h2 => by
    unfold p3_isFine
    rw [if_neg (nIc h1 h2)]
    rfl
  unfold p8_checkNewName p8_checkNewName_J23 p3_wordLength
  by_cases c1 : k1 = 1
  case neg =>
    have c1' : ¬ nI k1 = 1 := fun q => c1 ((nI_eq (a := k1) (b := 1) (by omega) (by omega)).mp q)
    refine ⟨lA, letters, pu, nI n', py, 1, nI s1, nI k1, nI s1, nI e1, v1, nI e1, nI s1, nI k1, nI s1, fam, ?_, ?_, hout 1 (by omega) (by omega), fun q => absurd q h10, hF0⟩
    · rw [if_neg c1', fail0]
      simp only [lb_eq, uc2]
      unfold p3_isFine
      rw [if_neg h10]
      rfl
    · rw [if_neg c1', checkF0]
      exact herr 1 (by omega) (by omega)
  subst c1
  rw [if_pos n1.symm, if_pos n1.symm, nI_sub P1.1, if_pos n1.symm]
  by_cases c8 : e1 - s1 ≤ 8
  case neg =>
    refine ⟨lA, letters, pu, nI n', py, 1, nI s1, nI 1, nI s1, nI e1, v1, nI e1, nI s1, nI 1, nI s1, fam, ?_, ?_, hout 1 (by omega) (by omega), fun q => absurd q h10, hF0⟩
    · rw [if_neg (show ¬ nI (e1 - s1) ≤ 8 from nI_ge (a := 8) (by omega) (by have := P1.2.1; omega)), fail0]
      simp only [lb_eq, uc2]
      unfold p3_isFine
      rw [if_neg h10]
      rfl
    · rw [if_pos (show (8 : Int32) < nI (e1 - s1) from nI_lt (a := 8) (by omega) (by have := P1.2.1; omega)), checkF0]
      exact herr 1 (by omega) (by omega)
  rw [if_pos (show nI (e1 - s1) ≤ 8 from nI_le (b := 8) c8 (by omega)), if_neg (show ¬ (8 : Int32) < nI (e1 - s1) from nI_nlt (a := 8) c8 (by omega)), checkT]
  obtain ⟨r, m1, m2, hr⟩ := named_ok H P1 W.n16 hX.1 hX.2.1 hC.1 hC.2 FM.1 PMf.2.1
  rw [m1]
  simp only [ob, uc2, lb_eq]
  unfold p10_readPerson_J62
  simp only [if_true]
  rw [m2]
  simp only [ob]
  rcases hr with ⟨p, hp, rfl⟩ | rfl
  · refine ⟨lA, letters, pu, nI n', py, 4, nI s1, nI 1, nI s1, nI e1, v1, nI e1, nI s1, nI 1, nI s1, fam, ?_, ?_, hout 4 (by omega) (by omega), fun q => absurd q h40, hF0⟩
    · rw [if_neg (nI_m1 (by omega)), fail0]
      simp only [lb_eq, uc2]
      unfold p3_isFine
      rw [if_neg h40]
      rfl
    · rw [if_neg (nI_m1 (by omega)), checkF0]
      have h := herr 4 (by omega) (by omega)
      rw [show nI 4 = (4 : Int32) from rfl, pers_err h40] at h
      simp only [lb_eq, uc2]
      unfold p10_readPerson_J87
      rw [if_neg h40]
      exact h
  · rw [if_pos rfl, if_pos rfl, checkT]
    simp only [lb_eq, uc2]
    unfold p10_readPerson_J87
    obtain ⟨lA', le', x1, z1, z2, z3, z4⟩ := X8_letters (lA := upd lA n' 0) (letters := letters) H P1 c8 cn upd_eq
    obtain ⟨s2, e2, k2, v2, y1, y2, P2, V2, l2, l2'⟩ := adv_fine H P1 (nI 1) (nI s1) v1 (nI s1) (nI 1)
    obtain ⟨r, r2, kd3, st3, sp3, va3, co3, es3, nx3, bg3, tk3, ea3, t1, t2, S3, hrr⟩ := year_fine H P2 V2 errorAt
    rw [if_pos rfl, M_persons FM, M_nameHere H P1 c8]
    simp only [ob]
    rw [show p10_putPerson fam (nI n') 2 (lN (nmb (tl B s1) (e1 - s1))) = some _ from M_putPerson (f := 2) cn (by omega) _]
    simp only []
    rw [nI_sub P1.1, nI_l (by have := P1.2.1; omega), show ∀ f, p10_putPerson f (nI n') 3 (lN (e1 - s1)) = some (vp_updL f (2 + 4 * n' + 3) (lN (e1 - s1))) from fun f => M_putPerson (f := 3) cn (by omega) _]
    simp only []
    rw [show ∀ f, p10_putPerson f (nI n') 1 (-1) = some (vp_updL f (2 + 4 * n' + 1) (-1)) from fun f => M_putPerson (f := 1) cn (by omega) _]
    simp only []
    rw [y2]
    simp only [uc3]
    rw [t2]
    simp only [uc6]
    rw [show ∀ f x, p10_putPerson f (nI n') 0 x = some (vp_updL f (2 + 4 * n') x) from fun f x => M_putPerson (f := 0) cn (by omega) x]
    simp only [gd0130, lb_eq]
    rw [show (0 : Int32).toNatClampNeg = 0 from rfl, updL_ne (show 0 ≠ 2 + 4 * n' by omega), updL_ne (show 0 ≠ 2 + 4 * n' + 1 by omega), updL_ne (show 0 ≠ 2 + 4 * n' + 3 by omega), updL_ne (show 0 ≠ 2 + 4 * n' + 2 by omega), FM.1, lN_1]
    unfold p3_isFine
    rw [if_pos rfl, cond_true]
    unfold p1_addPerson
    simp only [lb_eq, uc5]
    rw [put_in cn (by omega), put_in cn (by omega), put_in cn (by omega), x1]
    simp only []
    unfold p8_readPerson_J86
    rw [y1]
    simp only [ob, uc4]
    rw [t1]
    simp only [uc7]
    rw [put_in cn (by omega), n1, nI_add]
    have hF1 : FXW (nI (n' + 1)) (nI u) (upd pu n' (-1)) fp sp := by
      rw [hu']
      exact (DD_add (r := 0) W AN hC hX F hY FM PMf hUy cn P1 c8 z1 z2 z3 z4 rfl).fxw
    rcases S3.cases with ⟨s3, e3, k3, P3, rfl, rfl, rfl, rfl, rfl, rfl, rfl, -, V3, rfl, l3, l3'⟩ | ⟨s3, e3, k3, c3, P3, rfl, rfl, rfl, rfl, rfl, rfl, rfl, -, h5, h0, rfl⟩
    · obtain ⟨kd4, st4, sp4, va4, co4, es4, nx4, bg4, tk4, ea4, w1, w2, S4⟩ := semi_fine H P3 V3 ea3
      rw [w1]
      simp only []
      unfold p10_readClause_J39
      rw [w2]
      simp only [uc6, uc5, ob]
      have := hrr rfl
      subst this
      exact ⟨_, _, _, _, _, _, _, _, _, _, _, _, _, _, _, _, rfl, rfl, S4.mono (by omega), fun _ => by rw [hu']; exact DD_add (r := r) W AN hC hX F hY FM PMf hUy cn P1 c8 z1 z2 z3 z4 rfl, hF1⟩
    · have hc := nIc h5 h0
      have hs := semi_err (bs := bs) (bf := bf) (L := L) (k2 := nI k3) (s2 := nI s3) (e2 := nI e3) hc (nI k3) (nI s3) (nI e3) va3 ea3 ea3 59
      rw [hs.1]
      simp only []
      unfold p10_readClause_J39
      rw [hs.2]
      simp only [uc6, uc5, ob]
      exact ⟨_, _, _, _, _, _, _, _, _, _, _, _, _, _, _, _, rfl, rfl, SIM.err P3 h5 h0, fun q => absurd q hc, hF1⟩
end RPERS
