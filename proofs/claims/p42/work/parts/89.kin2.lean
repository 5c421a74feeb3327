/-! the whole table, and the reference's recursion -/
section KINB
variable {n u : Nat} {pr a b g : Nat → Nat} {an : Nat → Nat → Bool} {fam : Nat → Int64} {pu fp sp ge am lv : Nat → Int32} {e e0 : Nat → Int64}
theorem dnk_up (W : WF n u pr a b g) {k i p : Nat} (hp : p < n) (h : dnk g k i p) (c : pr p < 12) : dnk g k i (a (pr p)) ∧ dnk g k i (b (pr p)) := by
  have U := W.up hp c
  unfold dnk at h ⊢
  omega
theorem X6_note1 (W : WF n u pr a b g) (F : FX n u pr a b pu fp sp) (hg : ∀ p, p < n → ge p = nI (g p)) {k i : Nat} (hi : i < n) (hk : g i = k) (h0 : ∀ p q, p < n → q < n → dnk g k i p → dnk g k i q → kT e0 p q = KV pr a b g (kT e0) p q) :
    ∃ e', p6_noteKinshipsOf (nI n) e0 fp ge pu sp (nI i) (nI k) = some e' ∧ ∀ p q, p < n → q < n → dnk g k (i + 1) p → dnk g k (i + 1) q → kT e' p q = KV pr a b g (kT e') p q := by
  have hn := W.n16
  subst hk
  obtain ⟨e', e1, h1, h2, h3⟩ := X6_noteOf (e0 := e0) W F hg hi
  refine ⟨e', e1, fun p q hp hq dp dq => ?_⟩
  have hold : ∀ p q, p < n → q < n → dnk g (g i) i p → dnk g (g i) i q → kT e' p q = kT e0 p q := fun p q hp hq d1 d2 =>
    h1 p q (by omega) (by omega) (fun z => by subst z; unfold dnk at d1; omega) (fun z => by subst z; unfold dnk at d2; omega)
  have hltp : ∀ p, p < n → dnk g (g i) (i + 1) p → p ≠ i → dnk g (g i) i p ∧ ltp g i p = true := by
    intro p hp d ne
    unfold dnk at d ⊢
    refine ⟨by omega, ?_⟩
    unfold ltp
    exact decide_eq_true (by omega)
  have hV : ∀ j, j < n → dnk g (g i) i j → KV pr a b g (kT e') i j = KV pr a b g (kT e0) i j := by
    intro j hj d
    have hji : i ≠ j := fun z => by subst z; unfold dnk at d; omega
    have hl : ltp g i j = true := by unfold ltp; unfold dnk at d; exact decide_eq_true (by omega)
    unfold KV
    rw [if_neg hji, if_neg hji, if_pos hl, if_pos hl]
    by_cases c : pr i < 12
    · have U := W.up hi c
      rw [if_pos c, if_pos c, hold j _ hj U.1 d (Or.inl U.2.2.1), hold j _ hj U.2.1 d (Or.inl U.2.2.2.1)]
    · rw [if_neg c, if_neg c]
  by_cases pi : p = i
  · by_cases qi : q = i
    · rw [pi, qi, h2]
      unfold KV
      rw [if_pos rfl, if_pos rfl]
      by_cases c : pr i < 12
      · have U := W.up hi c
        rw [if_pos c, if_pos c, hold _ _ U.1 U.2.1 (Or.inl U.2.2.1) (Or.inl U.2.2.2.1)]
      · rw [if_neg c, if_neg c]
    · obtain ⟨d, l⟩ := hltp q hq dq qi
      rw [pi, (h3 q hq l).1, hV q hq d]
  · obtain ⟨d, l⟩ := hltp p hp dp pi
    by_cases qi : q = i
    · rw [qi, (h3 p hp l).2, ← hV p hp d]
      have l2 : ¬ ltp g p i = true := by
        unfold ltp at l ⊢
        intro z
        have := of_decide_eq_true z
        have := of_decide_eq_true l
        omega
      unfold KV
      rw [if_neg (Ne.symm pi), if_neg pi, if_pos l, if_neg l2]
    · obtain ⟨d2, l2⟩ := hltp q hq dq qi
      rw [hold p q hp hq d d2, h0 p q hp hq d d2]
      exact KV_congr W (P := dnk g (g i) i) (fun p hp h c => dnk_up W hp h c) (fun p q hp hq d1 d2 => (hold p q hp hq d1 d2).symm) hp hq d d2
theorem X6_note (W : WF n u pr a b g) (F : FX n u pr a b pu fp sp) (hg : ∀ p, p < n → ge p = nI (g p)) :
    ∃ e', p6_noteKinships (nI n) (nI (rowsN g n)) e0 fp ge pu sp = some e' ∧ ∀ p q, p < n → q < n → kT e' p q = KV pr a b g (kT e') p q := by
  have hn := W.n16
  have hR := rows16 W
  have hrow : ∀ k, k < rowsN g n → ∀ e0 : Nat → Int64, (∀ p q, p < n → q < n → dnk g k 0 p → dnk g k 0 q → kT e0 p q = KV pr a b g (kT e0) p q) →
      ∃ e', p6_noteKinships_L15 fp ge pu (nI n) sp (nI k) FU (nI 0) e0 = some e' ∧ ∀ p q, p < n → q < n → dnk g k n p → dnk g k n q → kT e' p q = KV pr a b g (kT e') p q := by
    intro k hk e0 h0
    exact loop_all (fun t i (z : Nat → Int64) => p6_noteKinships_L15 fp ge pu (nI n) sp (nI k) t (nI i) z) n
      (fun i z => ∀ p q, p < n → q < n → dnk g k i p → dnk g k i q → kT z p q = KV pr a b g (kT z) p q)
      (fun z => ∀ p q, p < n → q < n → dnk g k n p → dnk g k n q → kT z p q = KV pr a b g (kT z) p q) (by
        intro t z hz
        refine ⟨z, ?_, hz⟩
        try dsimp only
        rw [p6_noteKinships_L15, p6_noteKinships_L15_B, if_pos (nI_le (Nat.le_refl _) (by omega))]) (by
        intro t i z hi hz
        have hgi := W.glt hi
        by_cases c : g i = k
        · obtain ⟨e', e1, h1⟩ := X6_note1 W F hg hi c hz
          refine ⟨e', ?_, h1⟩
          try dsimp only
          rw [p6_noteKinships_L15, p6_noteKinships_L15_B, if_neg (nI_ge hi (by omega)), at_in (by omega) (by omega), hg i hi, if_pos (by rw [c]), e1]
          simp only [ob, lb]
          rw [n1, nI_add]
        · refine ⟨z, ?_, fun p q hp hq d1 d2 => hz p q hp hq ?_ ?_⟩
          · try dsimp only
            rw [p6_noteKinships_L15, p6_noteKinships_L15_B, if_neg (nI_ge hi (by omega)), at_in (by omega) (by omega), hg i hi, if_neg (fun q => c ((nI_eq (by omega) (by omega)).mp q))]
            simp only [lb]
            rw [n1, nI_add]
          · unfold dnk at d1 ⊢
            have : p = i → g p ≠ k := fun z => z ▸ c
            omega
          · unfold dnk at d2 ⊢
            have : q = i → g q ≠ k := fun z => z ▸ c
            omega) FU 0 e0 (Nat.zero_le _) (by show n - 0 < 1024; omega) h0
  have hL := loop_all (fun t k (z : Nat → Int64) => p6_noteKinships_L2 fp ge pu (nI n) (nI (rowsN g n)) sp t (nI k) z) (rowsN g n)
    (fun k z => ∀ p q, p < n → q < n → dnk g k 0 p → dnk g k 0 q → kT z p q = KV pr a b g (kT z) p q)
    (fun z => ∀ p q, p < n → q < n → kT z p q = KV pr a b g (kT z) p q) (by
      intro t z hz
      refine ⟨z, ?_, fun p q hp hq => hz p q hp hq (Or.inl (rowsN_lt hp)) (Or.inl (rowsN_lt hq))⟩
      try dsimp only
      rw [p6_noteKinships_L2, p6_noteKinships_L2_B, if_pos (nI_le (Nat.le_refl _) (by omega))]) (by
      intro t k z hk hz
      obtain ⟨e', e1, h1⟩ := hrow k hk z hz
      refine ⟨e', ?_, fun p q hp hq d1 d2 => h1 p q hp hq ?_ ?_⟩
      · try dsimp only
        rw [p6_noteKinships_L2, p6_noteKinships_L2_B, if_neg (nI_ge hk (by omega)), n0, e1]
        simp only [ob, p6_noteKinships_J53, lb]
        rw [n1, nI_add]
      · unfold dnk at d1 ⊢; omega
      · unfold dnk at d2 ⊢; omega) FU 0 e0 (Nat.zero_le _) (by show rowsN g n - 0 < 1024; omega) (fun p q _ _ d _ => by unfold dnk at d; omega)
  obtain ⟨z, e1, h1⟩ := hL
  refine ⟨z, ?_, h1⟩
  unfold p6_noteKinships
  rw [n0, e1]
  rfl
def MEM (n : Nat) (kk : Nat → Nat → Int64) (mk : Nat → Int64) : Prop := ∀ p q, p < n → q < n → mk (16 * p + q) = -1 ∨ mk (16 * p + q) = kk p q
theorem MEM.up {kk : Nat → Nat → Int64} {mk : Nat → Int64} (h : MEM n kk mk) (hn : n ≤ 16) {p q : Nat} (hp : p < n) (hq : q < n) {v : Int64} (hv : v = kk p q) : MEM n kk (vp_updL mk (16 * p + q) v) := by
  intro p' q' h1 h2
  by_cases e : 16 * p' + q' = 16 * p + q
  · have e1 : p' = p := by omega
    have e2 : q' = q := by omega
    subst e1; subst e2
    rw [updL_eq]
    exact Or.inr hv
  · rw [updL_ne e]
    exact h p' q' h1 h2
end KINB
