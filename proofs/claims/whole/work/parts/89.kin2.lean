/-! the whole table, and the reference's recursion -/
section KINB
variable {n u : Nat} {pr a b g : Nat → Nat} {an : Nat → Nat → Bool} {fam : Nat → Int64} {pu fp sp ge am lv : Nat → Int32} {e e0 : Nat → Int64}
theorem dnk_up (W : WF n u pr a b g) {k i p : Nat} (hp : p < n) (h : dnk g k i p) (c : pr p < 12) : dnk g k i (a (pr p)) ∧ dnk g k i (b (pr p)) := by
  have U := W.up hp c
  unfold dnk at h ⊢
  omega
theorem X6_note1 (W : WF n u pr a b g) (F : FX n u pr a b pu fp sp) (hg : ∀ p, p < n → ge p = nI (g p)) {k i : Nat} (hi : i < n) (hk : g i = k) (h0 : ∀ p q, p < n → q < n → dnk g k i p → dnk g k i q → kT e0 p q = KV pr a b g (kT e0) p q) :
    ∃ e', p6_noteKinshipsOf (nI n) e0 fp ge pu sp (nI i) (nI k) = some e' ∧ ∀ p q, p < n → q < n → dnk g k (i + 1) p → dnk g k (i + 1) q → kT e' p q = KV pr a b g (kT e') p q := by
  have hn := W.n16
  subst hk
  obtain ⟨e', e1, h1, h2, h3⟩ := X6_noteOf (e0 := e0) W F hg hi
  refine ⟨e', e1, fun p q hp hq dp dq => ?_⟩
  have hold : ∀ p q, p < n → q < n → dnk g (g i) i p → dnk g (g i) i q → kT e' p q = kT e0 p q := fun p q hp hq d1 d2 =>
    h1 p q (by omega) (by omega) (fun z => by subst z; unfold dnk at d1; omega) (fun z => by subst z; unfold dnk at d2; omega)
  have hltp : ∀ p, p < n → dnk g (g i) (i + 1) p → p ≠ i → dnk g (g i) i p ∧ ltp g i p = true := by
    intro p hp d ne
    unfold dnk at d ⊢
    refine ⟨by omega, ?_⟩
    unfold ltp
    exact decide_eq_true (by omega)
  have hV : ∀ j, j < n → dnk g (g i) i j → KV pr a b g (kT e') i j = KV pr a b g (kT e0) i j := by
    intro j hj d
    have hji : i ≠ j := fun z => by subst z; unfold dnk at d; omega
    have hl : ltp g i j = true := by unfold ltp; unfold dnk at d; exact decide_eq_true (by omega)
    unfold KV
    rw [if_neg hji, if_neg hji, if_pos hl, if_pos hl]
    by_cases c : pr i < 12
    · have U := W.up hi c
      rw [if_pos c, if_pos c, hold j _ hj U.1 d (Or.inl U.2.2.1), hold j _ hj U.2.1 d (Or.inl U.2.2.2.1)]
    · rw [if_neg c, if_neg c]
  by_cases pi : p = i
  · by_cases qi : q = i
    · rw [pi, qi, h2]
      unfold KV
      rw [if_pos rfl, if_pos rfl]
      by_cases c : pr i < 12
      · have U := W.up hi c
        rw [if_pos c, if_pos c, hold _ _ U.1 U.2.1 (Or.inl U.2.2.1) (Or.inl U.2.2.2.1)]
      · rw [if_neg c, if_neg c]
    · obtain ⟨d, l⟩ := hltp q hq dq qi
      rw [pi, (h3 q hq l).1, hV q hq d]
  · obtain ⟨d, l⟩ := hltp p hp dp pi
    by_cases qi : q = i
    · rw [qi, (h3 p hp l).2, ← hV p hp d]
      have l2 : ¬ ltp g p i = true := by
        unfold ltp at l ⊢
        intro z
        have := of_decide_eq_true z
        have := of_decide_eq_true l
        omega
      unfold KV
      rw [if_neg (Ne.symm pi), if_neg pi, if_pos l, if_neg l2]
    · obtain ⟨d2, l2⟩ := hltp q hq dq qi
      rw [hold p q hp hq d d2, h0 p q hp hq d d2]
      exact KV_congr W (P := dnk g (g i) i) (fun p hp h c => dnk_up W hp h c) (fun p q hp hq d1 d2 => (hold p q hp hq d1 d2).symm) hp hq d d2
theorem X6_note (W : WF n u pr a b g) (F : FX n u pr a b pu fp sp) (hg : ∀ p, p < n → ge p = nI (g p)) :
    ∃ e', p6_noteKinships (nI n) (nI (rowsN g n)) e0 fp ge pu sp = some e' ∧ ∀ p q, p < n → q < n → kT e' p q = KV pr a b g (kT e') p q := by
  have hn := W.n16
  have hR := rows16 W
  have hrow : ∀ k, k < rowsN g n → ∀ e0 : Nat → Int64, (∀ p q, p < n → q < n → dnk g k 0 p → dnk g k 0 q → kT e0 p q = KV pr a b g (kT e0) p q) →
      ∃ e', p6_noteKinships_L15 fp ge pu (nI n) sp (nI k) FU (nI 0) e0 = some e' ∧ ∀ p q, p < n → q < n → dnk g k n p → dnk g k n q → kT e' p q = KV pr a b g (kT e') p q := by
    intro k hk e0 h0
    exact loop_all (fun t i (z : Nat → Int64) => p6_noteKinships_L15 fp ge pu (nI n) sp (nI k) t (nI i) z) n
      (fun i z => ∀ p q, p < n → q < n → dnk g k i p → dnk g k i q → kT z p q = KV pr a b g (kT z) p q)
      (fun z => ∀ p q, p < n → q < n → dnk g k n p → dnk g k n q → kT z p q = KV pr a b g (kT z) p q) (by
        intro t z hz
        refine ⟨z, ?_, hz⟩
        try dsimp only
        rw [p6_noteKinships_L15, p6_noteKinships_L15_B, if_pos (nI_le (Nat.le_refl _) (by omega))]) (by
        intro t i z hi hz
        have hgi := W.glt hi
        by_cases c : g i = k
        · obtain ⟨e', e1, h1⟩ := X6_note1 W F hg hi c hz
          refine ⟨e', ?_, h1⟩
          try dsimp only
          rw [p6_noteKinships_L15, p6_noteKinships_L15_B, if_neg (nI_ge hi (by omega)), at_in (by omega) (by omega), hg i hi, if_pos (by rw [c]), e1]
          simp only [ob, lb]
          rw [n1, nI_add]
        · refine ⟨z, ?_, fun p q hp hq d1 d2 => hz p q hp hq ?_ ?_⟩
          · try dsimp only
            rw [p6_noteKinships_L15, p6_noteKinships_L15_B, if_neg (nI_ge hi (by omega)), at_in (by omega) (by omega), hg i hi, if_neg (fun q => c ((nI_eq (by omega) (by omega)).mp q))]
            simp only [lb]
            rw [n1, nI_add]
          · unfold dnk at d1 ⊢
            have : p = i → g p ≠ k := fun z => z ▸ c
            omega
          · unfold dnk at d2 ⊢
            have : q = i → g q ≠ k := fun z => z ▸ c
            omega) FU 0 e0 (Nat.zero_le _) (by show n - 0 < 1024; omega) h0
  have hL := loop_all (fun t k (z : Nat → Int64) => p6_noteKinships_L2 fp ge pu (nI n) (nI (rowsN g n)) sp t (nI k) z) (rowsN g n)
    (fun k z => ∀ p q, p < n → q < n → dnk g k 0 p → dnk g k 0 q → kT z p q = KV pr a b g (kT z) p q)
    (fun z => ∀ p q, p < n → q < n → kT z p q = KV pr a b g (kT z) p q) (by
      intro t z hz
      refine ⟨z, ?_, fun p q hp hq => hz p q hp hq (Or.inl (rowsN_lt hp)) (Or.inl (rowsN_lt hq))⟩
      try dsimp only
      rw [p6_noteKinships_L2, p6_noteKinships_L2_B, if_pos (nI_le (Nat.le_refl _) (by omega))]) (by
      intro t k z hk hz
      obtain ⟨e', e1, h1⟩ := hrow k hk z hz
      refine ⟨e', ?_, fun p q hp hq d1 d2 => h1 p q hp hq ?_ ?_⟩
      · try dsimp only
        rw [p6_noteKinships_L2, p6_noteKinships_L2_B, if_neg (nI_ge hk (by omega)), n0, e1]
        simp only [ob, p6_noteKinships_J53, lb]
        rw [n1, nI_add]
      · unfold dnk at d1 ⊢; omega
      · unfold dnk at d2 ⊢; omega) FU 0 e0 (Nat.zero_le _) (by show rowsN g n - 0 < 1024; omega) (fun p q _ _ d _ => by unfold dnk at d; omega)
  obtain ⟨z, e1, h1⟩ := hL
  refine ⟨z, ?_, h1⟩
  unfold p6_noteKinships
  rw [n0, e1]
  rfl
theorem M_isLater (hg : ∀ p, p < n → ge p = nI (g p)) (W : WF n u pr a b g) {p q : Nat} (hp : p < n) (hq : q < n) : p10_isLater ge (nI p) (nI q) = some (ltp g p q) := by
  have hn := W.n16
  have h1 := W.glt hp
  have h2 := W.glt hq
  unfold p10_isLater
  rw [gd_in (by omega) (by omega), gd_in (by omega) (by omega), gd_in (by omega) (by omega), gd_in (by omega) (by omega), nI_clamp (by omega), nI_clamp (by omega), hg p hp, hg q hq]
  unfold ltp
  by_cases c1 : g q < g p
  · rw [if_pos (nI_lt c1 (by omega)), decide_eq_true (Or.inl c1)]
  · rw [if_neg (nI_nlt (by omega) (by omega))]
    by_cases c2 : g p = g q
    · rw [if_pos (by rw [c2])]
      by_cases c3 : q < p
      · rw [if_neg (nI_ge c3 (by omega)), decide_eq_true (Or.inr ⟨c2.symm, c3⟩)]
      · rw [if_pos (nI_le (by omega) (by omega)), decide_eq_false (by omega)]
    · rw [if_neg (fun z => c2 ((nI_eq (by omega) (by omega)).mp z)), decide_eq_false (by omega)]
def MEM (n : Nat) (kk : Nat → Nat → Int64) (mk : Nat → Int64) : Prop := ∀ p q, p < n → q < n → mk (16 * p + q) = -1 ∨ mk (16 * p + q) = kk p q
theorem MEM.up {kk : Nat → Nat → Int64} {mk : Nat → Int64} (h : MEM n kk mk) (hn : n ≤ 16) {p q : Nat} (hp : p < n) (hq : q < n) {v : Int64} (hv : v = kk p q) : MEM n kk (vp_updL mk (16 * p + q) v) := by
  intro p' q' h1 h2
  by_cases e : 16 * p' + q' = 16 * p + q
  · have e1 : p' = p := by omega
    have e2 : q' = q := by omega
    subst e1; subst e2
    rw [updL_eq]
    exact Or.inr hv
  · rw [updL_ne e]
    exact h p' q' h1 h2
theorem M_kinshipOf (W : WF n u pr a b g) (F : MX n u pr a b fam) (hg : ∀ p, p < n → ge p = nI (g p)) {kk : Nat → Nat → Int64} (hk : ∀ p q, p < n → q < n → kk p q = KV pr a b g kk p q) :
    ∀ d p q (mk : Nat → Int64), p < n → q < n → g p + g q < d → MEM n kk mk → ∃ mk', p10_kinshipOf d fam ge mk (nI p) (nI q) = some (kk p q, mk') ∧ MEM n kk mk' := by
  have hn := W.n16
  intro d
  induction d with
  | zero => intro p q mk _ _ h; omega
  | succ d ih =>
    intro p q mk hp hq hd M
    show ∃ mk', p10_kinshipOf_O (p10_kinshipOf d) fam ge mk (nI p) (nI q) = some (kk p q, mk') ∧ MEM n kk mk'
    unfold p10_kinshipOf_O
    rw [n16, nI_mul, nI_add]
    simp only [lb]
    rw [gd_in (by omega) (by omega), nI_clamp (by omega)]
    by_cases hm : mk (16 * p + q) = -1
    · rw [if_pos hm, M_isLater hg W hp hq]
      simp only [ob]
      have hput : ∀ (v : Int64) (mk1 : Nat → Int64), MEM n kk mk1 → (if p = q then (549755813888 : Int64) + v else v) = kk p q → ∃ mk', p10_kinshipOf_J134 (nI p) (nI q) (nI (16 * p + q)) v mk1 = some (kk p q, mk') ∧ MEM n kk mk' := by
        intro v mk1 M1 hv
        unfold p10_kinshipOf_J134
        by_cases c : p = q
        · rw [if_pos c] at hv
          refine ⟨vp_updL mk1 (16 * p + q) (549755813888 + v), ?_, M1.up hn hp hq hv⟩
          rw [if_pos (by rw [c]), gd_in (by omega) (by omega), nI_clamp (by omega)]
          simp only [lb, p10_kinshipOf_J156]
          rw [gd_in (by omega) (by omega), nI_clamp (by omega), updL_eq, hv]
        · rw [if_neg c] at hv
          refine ⟨vp_updL mk1 (16 * p + q) v, ?_, M1.up hn hp hq hv⟩
          rw [if_neg (fun z => c ((nI_eq (by omega) (by omega)).mp z)), gd_in (by omega) (by omega), nI_clamp (by omega)]
          simp only [lb, p10_kinshipOf_J156]
          rw [gd_in (by omega) (by omega), nI_clamp (by omega), updL_eq, hv]
      have hgo : ∀ x y, x < n → y < n → g x + g y < d + 1 → (p = q → x = p ∧ y = p) →
          (kk p q = if p = q then 549755813888 + (if pr x < 12 then kk (a (pr x)) (b (pr x)) / 2 else 0) else if pr x < 12 then (kk y (a (pr x)) + kk y (b (pr x))) / 2 else 0) →
          ∃ mk', p10_kinshipOf_J56 (p10_kinshipOf d) fam ge mk (nI p) (nI q) (nI (16 * p + q)) (nI x) (nI y) = some (kk p q, mk') ∧ MEM n kk mk' := by
        intro x y hx hy hxy hpq hkk
        unfold p10_kinshipOf_J56
        rw [M_parentsOf F hn hx]
        simp only [ob]
        by_cases c : pr x < 12
        · have U := W.up hx c
          rw [oN_in c, if_neg (nI_m1 (by omega)), n0, M_partner0 F W.u12 (W.pr12 hx c), n1, M_partner1 F W.u12 (W.pr12 hx c)]
          simp only []
          rw [if_pos c, if_pos c] at hkk
          by_cases e : p = q
          · obtain ⟨rfl, rfl⟩ := hpq e
            obtain ⟨mk1, e1, M1⟩ := ih _ _ mk U.1 U.2.1 (by omega) M
            rw [if_pos (by rw [e]), e1]
            simp only [ob, uc2, lb]
            exact hput _ mk1 M1 (by rw [if_pos e, hkk, if_pos e])
          · obtain ⟨mk1, e1, M1⟩ := ih y _ mk hy U.1 (by omega) M
            obtain ⟨mk2, e2, M2⟩ := ih y _ mk1 hy U.2.1 (by omega) M1
            rw [if_neg (fun z => e ((nI_eq (by omega) (by omega)).mp z)), e1]
            simp only [ob, uc2]
            rw [e2]
            simp only [lb]
            exact hput _ mk2 M2 (by rw [if_neg e, hkk, if_neg e])
        · rw [oN_out c, if_pos rfl]
          rw [if_neg c, if_neg c] at hkk
          exact hput 0 mk M (by rw [hkk])
      have hKV := hk p q hp hq
      unfold KV at hKV
      by_cases l : ltp g p q = true
      · have hne : p ≠ q := fun z => by subst z; unfold ltp at l; have := of_decide_eq_true l; omega
        rw [l, cond_true]
        unfold p10_kinshipOf_J43
        rw [if_pos rfl]
        refine hgo p q hp hq hd (fun z => absurd z hne) ?_
        rw [hKV, if_neg hne, if_neg hne, if_pos l]
      · rw [Bool.not_eq_true] at l
        rw [l, cond_false]
        unfold p10_kinshipOf_J43
        by_cases e : p = q
        · subst e
          rw [if_pos rfl]
          refine hgo p p hp hq hd (fun _ => ⟨rfl, rfl⟩) ?_
          rw [hKV, if_pos rfl, if_pos rfl]
        · rw [if_neg (fun z => e ((nI_eq (by omega) (by omega)).mp z).symm)]
          refine hgo q p hq hp (by omega) (fun z => absurd z e) ?_
          rw [hKV, if_neg e, if_neg e, l, if_neg (by decide)]
    · rw [if_neg hm, gd_in (by omega) (by omega)]
      refine ⟨mk, ?_, M⟩
      rcases M p q hp hq with h | h
      · exact absurd h hm
      · rw [h]
theorem M_forget (W : WF n u pr a b g) (F : MX n u pr a b fam) {mk : Nat → Int64} : ∃ ge' mk' lv', p10_forgetKinships fam ge mk lv = some (ge', mk', lv', nI (rowsN g n)) ∧ (∀ p, p < n → ge' p = nI (g p)) ∧ (∀ w, w < u → lv' w = nI (lw a b g w)) ∧ ∀ i, i < 256 → mk' i = -1 := by
  obtain ⟨ge1, lv1, e1, h1, h2⟩ := M_layGen (ge := ge) (lv := lv) W F
  obtain ⟨z, e2, h3⟩ := loop_all (fun t i (z : Nat → Int64) => p10_forgetKinships_L6 t (nI i) z) 256 (fun i z => ∀ j, j < i → z j = -1) (fun z => ∀ j, j < 256 → z j = -1) (by
    intro t z hz
    refine ⟨z, ?_, hz⟩
    try dsimp only
    rw [p10_forgetKinships_L6, p10_forgetKinships_L6_B, show (256 : Int32) = nI 256 from rfl, if_pos (nI_le (Nat.le_refl _) (by omega))]) (by
    intro t i z hi hz
    refine ⟨vp_updL z i (-1), ?_, fun j hj => ?_⟩
    · try dsimp only
      rw [p10_forgetKinships_L6, p10_forgetKinships_L6_B, show (256 : Int32) = nI 256 from rfl, if_neg (nI_ge hi (by omega)), gd_in (by omega) (by omega), nI_clamp (by omega)]
      simp only [lb]
      rw [n1, nI_add]
    · by_cases e : j = i
      · rw [e, updL_eq]
      · rw [updL_ne e]; exact hz j (by omega)) FU 0 mk (Nat.zero_le _) (by decide) (fun j hj => absurd hj (Nat.not_lt_zero _))
  refine ⟨ge1, z, lv1, ?_, h1, h2, h3⟩
  unfold p10_forgetKinships
  rw [e1]
  simp only [ob, uc3]
  have e2' : p10_forgetKinships_L6 FU (nI 0) mk = some z := e2
  rw [n0, e2']
  rfl
theorem M_arePersons (F : MX n u pr a b fam) (hn : n ≤ 16) (x y : Int32) : p10_arePersons fam x y = some (p1_hasPerson (nI n) x && p1_hasPerson (nI n) y, if (p1_hasPerson (nI n) x && p1_hasPerson (nI n) y) = true then 0 else 1) := by
  unfold p10_arePersons
  rw [M_isPerson F]
  simp only [ob]
  rcases idx_cases x n (by omega) with ⟨p, hp, rfl⟩ | h
  · rw [inRange_in hp (by omega), hasPerson_in hp (by omega), cond_true, M_isPerson F]
    simp only []
    rcases idx_cases y n (by omega) with ⟨q, hq, rfl⟩ | h
    · rw [inRange_in hq (by omega), hasPerson_in hq (by omega)]; rfl
    · rw [inRange_out h (by omega), hasPerson_out h]; rfl
  · rw [inRange_out h (by omega), hasPerson_out h]; rfl
end KINB
