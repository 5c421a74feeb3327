/-! distance: spheres -/
theorem bt_c1 (q : Nat) : bt (1 : Int32) q = decide (q = 0) := by
  by_cases hq : q < 32
  · have : ∀ q, q < 32 → bt (1 : Int32) q = decide (q = 0) := by decide +kernel
    exact this q hq
  · rw [bt_big (by omega), decide_eq_false (by omega)]
theorem bt_shr1 {x : Int32} {p : Nat} (hp : p < 32) : (x >>> (nI p &&& 31)) &&& 1 = 1 ↔ bt x p = true := by
  constructor
  · intro h
    have h1 := bt_shr (x := x) hp
    rw [h] at h1
    cases hb : bt x p with
    | true => rfl
    | false => exact absurd (h1.mpr hb) (by decide)
  · intro h
    refine bt_ext fun q _ => ?_
    rw [bt_and, bt_c1]
    by_cases e : q = 0
    · rw [e, bt_shr0 hp, h]; rfl
    · rw [decide_eq_false e, Bool.and_false]
def par (pr a b : Nat → Nat) (x y : Nat) : Prop := pr y < 12 ∧ (x = a (pr y) ∨ x = b (pr y))
def nbr (n : Nat) (pr a b : Nat → Nat) (M : Nat → Prop) (y : Nat) : Prop := y < n ∧ ∃ x, x < n ∧ M x ∧ (par pr a b x y ∨ par pr a b y x)
def sph (n : Nat) (pr a b : Nat → Nat) (p : Nat) : Nat → Nat → Prop
  | 0, q => q = p
  | k + 1, q => sph n pr a b p k q ∨ nbr n pr a b (sph n pr a b p k) q
def DST (n : Nat) (pr a b : Nat → Nat) (p q : Nat) (r : Int32) : Prop :=
  (∃ d, d < 16 ∧ sph n pr a b p d q ∧ (∀ j, j < d → ¬ sph n pr a b p j q) ∧ r = nI d) ∨ ((∀ k, k < 16 → ¬ sph n pr a b p k q) ∧ r = -1)
theorem DST.uniq {n : Nat} {pr a b : Nat → Nat} {p q : Nat} {r s : Int32} (h1 : DST n pr a b p q r) (h2 : DST n pr a b p q s) : r = s := by
  rcases h1 with ⟨d, a1, a2, a3, rfl⟩ | ⟨a1, rfl⟩
  · rcases h2 with ⟨d', b1, b2, b3, rfl⟩ | ⟨b1, rfl⟩
    · have : d = d' := by
        rcases Nat.lt_trichotomy d d' with h | h | h
        · exact absurd a2 (b3 d h)
        · exact h
        · exact absurd b2 (a3 d' h)
      rw [this]
    · exact absurd a2 (b1 d a1)
  · rcases h2 with ⟨d', b1, b2, b3, rfl⟩ | ⟨b1, rfl⟩
    · exact absurd b2 (a1 d' b1)
    · rfl
section DIST
variable {n u : Nat} {pr a b g : Nat → Nat} {fam : Nat → Int64} {pu fp sp : Nat → Int32}
theorem sph_lt {p : Nat} (hp : p < n) : ∀ k q, sph n pr a b p k q → q < n := by
  intro k
  induction k with
  | zero => intro q h; have h' : q = p := h; omega
  | succ k ih =>
    intro q h
    rcases h with h | h
    · exact ih q h
    · exact h.1
theorem sph_mono {p q : Nat} {j k : Nat} (h : j ≤ k) (hs : sph n pr a b p j q) : sph n pr a b p k q := by
  induction k with
  | zero => rw [show j = 0 by omega] at hs; exact hs
  | succ k ih =>
    by_cases e : j = k + 1
    · rw [e] at hs; exact hs
    · exact Or.inl (ih (by omega))
theorem bt_par (W : WF n u pr a b g) (F : FX n u pr a b pu fp sp) {i : Nat} (hi : i < n) (y : Nat) : bt (p9_bit (p1_firstParent fp pu (nI i)) ||| p9_bit (p1_secondParent pu sp (nI i))) y = true ↔ par pr a b y i := by
  have hn := W.n16
  rw [bt_or]
  unfold par
  by_cases c : pr i < 12
  · have U := W.up hi c
    rw [X1_firstParent W F hi c, X1_secondParent W F hi c, bt_bit (by omega), bt_bit (by omega)]
    simp [c]
  · rw [X1_firstParent0 W F hi c, X1_secondParent0 W F hi c, bit_m1, bt_zero]
    simp [c]
theorem X6_neighbours (W : WF n u pr a b g) (F : FX n u pr a b pu fp sp) {M : Nat → Prop} {m : Int32} (hm : ∀ q, bt m q = true ↔ M q) (hM : ∀ q, M q → q < n) :
    ∃ r, p6_neighbours (nI n) fp pu sp m = some r ∧ ∀ q, bt r q = true ↔ nbr n pr a b M q := by
  have hn := W.n16
  have hL := loop_all (fun t i (z : Int32) => p6_neighbours_L4 fp pu (nI n) sp m t z (nI i)) n
    (fun i z => ∀ q, bt z q = true ↔ ∃ j, j < i ∧ ((M j ∧ par pr a b q j) ∨ (q = j ∧ ∃ x, M x ∧ par pr a b x j)))
    (fun r => ∀ q, bt r q = true ↔ nbr n pr a b M q) (by
      intro t z hz
      refine ⟨z, ?_, fun q => ?_⟩
      · try dsimp only
        rw [p6_neighbours_L4, p6_neighbours_L4_B, if_pos (nI_le (Nat.le_refl _) (by omega))]
      · rw [hz q]
        constructor
        · rintro ⟨j, hj, ⟨h1, h2⟩ | ⟨rfl, x, h1, h2⟩⟩
          · have U := W.up hj h2.1
            refine ⟨?_, j, hj, h1, Or.inr h2⟩
            rcases h2.2 with h | h <;> rw [h] <;> omega
          · exact ⟨hj, x, hM x h1, h1, Or.inl h2⟩
        · rintro ⟨hq, x, hx, h1, h2 | h2⟩
          · exact ⟨q, hq, Or.inr ⟨rfl, x, h1, h2⟩⟩
          · exact ⟨x, hx, Or.inl ⟨h1, h2⟩⟩) (by
      intro t i z hi hz
      have hpar := bt_par W F hi
      generalize ht : (p9_bit (p1_firstParent fp pu (nI i)) ||| p9_bit (p1_secondParent pu sp (nI i))) = T at hpar
      have hT0 : m &&& T = 0 ↔ ¬ ∃ x, M x ∧ par pr a b x i := by
        constructor
        · rintro h ⟨x, h1, h2⟩
          have h3 := bt_and m T x
          rw [h, bt_zero, (hm x).mpr h1, (hpar x).mpr h2] at h3
          exact Bool.noConfusion h3
        · intro h
          refine bt_ext fun q _ => ?_
          rw [bt_and, bt_zero]
          cases h1 : bt m q with
          | false => rfl
          | true =>
            cases h2 : bt T q with
            | false => rfl
            | true => exact absurd ⟨q, (hm q).mp h1, (hpar q).mp h2⟩ h
      have hJ : ∀ z1 : Int32, (∀ q, bt z1 q = true ↔ (∃ j, j < i ∧ ((M j ∧ par pr a b q j) ∨ (q = j ∧ ∃ x, M x ∧ par pr a b x j))) ∨ (M i ∧ par pr a b q i)) →
          ∃ s', p6_neighbours_J54 (p6_neighbours_L4 fp pu (nI n) sp m t) m (nI i) z1 T = p6_neighbours_L4 fp pu (nI n) sp m t s' (nI (i + 1)) ∧ ∀ q, bt s' q = true ↔ ∃ j, j < i + 1 ∧ ((M j ∧ par pr a b q j) ∨ (q = j ∧ ∃ x, M x ∧ par pr a b x j)) := by
        intro z1 hz1
        unfold p6_neighbours_J54
        by_cases c : m &&& T = 0
        · refine ⟨z1, ?_, fun q => ?_⟩
          · rw [if_pos c]
            simp only [lb]
            rw [n1, nI_add]
          · rw [hz1 q]
            have c2 := hT0.mp c
            constructor
            · rintro (⟨j, hj, h⟩ | h)
              · exact ⟨j, by omega, h⟩
              · exact ⟨i, by omega, Or.inl h⟩
            · rintro ⟨j, hj, h⟩
              by_cases e : j = i
              · rw [e] at h
                rcases h with h | ⟨-, h⟩
                · exact Or.inr h
                · exact absurd h c2
              · exact Or.inl ⟨j, by omega, h⟩
        · refine ⟨z1 ||| p9_bit (nI i), ?_, fun q => ?_⟩
          · rw [if_neg c]
            simp only [lb]
            rw [n1, nI_add]
          · have c2 : ∃ x, M x ∧ par pr a b x i := Classical.byContradiction fun h => c (hT0.mpr h)
            rw [bt_or, Bool.or_eq_true, hz1 q, bt_bit (by omega), decide_eq_true_iff]
            constructor
            · rintro ((⟨j, hj, h⟩ | h) | h)
              · exact ⟨j, by omega, h⟩
              · exact ⟨i, by omega, Or.inl h⟩
              · exact ⟨i, by omega, Or.inr ⟨h, c2⟩⟩
            · rintro ⟨j, hj, h⟩
              by_cases e : j = i
              · rw [e] at h
                rcases h with h | ⟨h, -⟩
                · exact Or.inl (Or.inr h)
                · exact Or.inr h
              · exact Or.inl (Or.inl ⟨j, by omega, h⟩)
      have hMi : m &&& p9_bit (nI i) = 0 ↔ ¬ M i := by
        rw [bt_one (fun q => bt_bit (by omega)) (show i < 32 by omega)]
        rw [← hm i]
        simp
      have hstep : p6_neighbours_L4 fp pu (nI n) sp m (t + 1) z (nI i) = if m &&& p9_bit (nI i) = 0 then p6_neighbours_J54 (p6_neighbours_L4 fp pu (nI n) sp m t) m (nI i) z T else p6_neighbours_J54 (p6_neighbours_L4 fp pu (nI n) sp m t) m (nI i) (z ||| T) T := by
        rw [p6_neighbours_L4, p6_neighbours_L4_B, if_neg (nI_ge hi (by omega)), ht]
        rfl
      try dsimp only
      by_cases c : m &&& p9_bit (nI i) = 0
      · have c2 := hMi.mp c
        rw [hstep, if_pos c]
        exact hJ z fun q => by rw [hz q]; exact ⟨Or.inl, fun h => h.elim id fun h => absurd h.1 c2⟩
      · have c2 : M i := Classical.byContradiction fun h => c (hMi.mpr h)
        rw [hstep, if_neg c]
        exact hJ (z ||| T) fun q => by
          rw [bt_or, Bool.or_eq_true, hz q, hpar q]
          exact ⟨fun h => h.elim Or.inl fun h => Or.inr ⟨c2, h⟩, fun h => h.elim Or.inl fun h => Or.inr h.2⟩) FU 0 0 (Nat.zero_le _) (by show n - 0 < 1024; omega) (fun q => by
        rw [bt_zero]
        exact ⟨fun h => Bool.noConfusion h, fun ⟨j, hj, _⟩ => absurd hj (Nat.not_lt_zero _)⟩)
  obtain ⟨z, e1, h1⟩ := hL
  try dsimp only at e1
  refine ⟨z, ?_, h1⟩
  have e1' : p6_neighbours_L4 fp pu (nI n) sp m FU (nI 0) (nI 0) = some z := e1
  unfold p6_neighbours
  rw [n0, e1']
  rfl
theorem X6_distance (W : WF n u pr a b g) (F : FX n u pr a b pu fp sp) {p q : Nat} (hp : p < n) (hq : q < n) :
    ∃ r, p6_stepsBetween (nI n) fp pu sp (nI p) (nI q) = some r ∧ DST n pr a b p q r := by
  have hn := W.n16
  have hL := loop_up (fun t i (z : Int32) => p6_stepsBetween_L8 fp pu (nI n) sp (nI q) t z (nI i)) 16
    (fun i z => (∀ y, bt z y = true ↔ sph n pr a b p i y) ∧ ∀ j, j < i → ¬ sph n pr a b p j q)
    (fun r => (r = .inr () ∧ ∀ j, j < 16 → ¬ sph n pr a b p j q) ∨ ∃ d, d < 16 ∧ r = .inl (nI d) ∧ sph n pr a b p d q ∧ ∀ j, j < d → ¬ sph n pr a b p j q) (by
      intro t z hz
      refine ⟨.inr (), ?_, Or.inl ⟨rfl, hz.2⟩⟩
      try dsimp only
      rw [p6_stepsBetween_L8, p6_stepsBetween_L8_B, n16, if_pos (nI_le (Nat.le_refl _) (by omega))]) (by
      intro t i z hi hz
      have hb : z &&& p9_bit (nI q) = 0 ↔ ¬ sph n pr a b p i q := by
        rw [bt_one (fun y => bt_bit (by omega)) (show q < 32 by omega), ← hz.1 q]
        simp
      by_cases c : z &&& p9_bit (nI q) = 0
      · obtain ⟨r, e1, h1⟩ := X6_neighbours W F hz.1 (fun y hy => sph_lt hp i y hy)
        refine Or.inl ⟨z ||| r, ?_, fun y => ?_, fun j hj => ?_⟩
        · try dsimp only
          rw [p6_stepsBetween_L8, p6_stepsBetween_L8_B, n16, if_neg (nI_ge hi (by omega)), if_pos c, e1]
          simp only [ob, lb]
          rw [n1, nI_add]
        · rw [bt_or, Bool.or_eq_true, hz.1 y, h1 y]
          exact Iff.rfl
        · by_cases e : j = i
          · rw [e]; exact hb.mp c
          · exact hz.2 j (by omega)
      · refine Or.inr ⟨.inl (nI i), ?_, Or.inr ⟨i, hi, rfl, Classical.byContradiction fun h => c (hb.mpr h), hz.2⟩⟩
        try dsimp only
        rw [p6_stepsBetween_L8, p6_stepsBetween_L8_B, n16, if_neg (nI_ge hi (by omega)), if_neg c]) FU 0 (p9_bit (nI p)) (Nat.zero_le _) (by decide) (by
        refine ⟨fun y => ?_, fun j hj => absurd hj (Nat.not_lt_zero _)⟩
        rw [bt_bit (by omega), decide_eq_true_iff]
        exact Iff.rfl)
  obtain ⟨z, e1, h1⟩ := hL
  try dsimp only at e1
  unfold p6_stepsBetween
  simp only [lb]
  rw [n0, e1]
  rcases h1 with ⟨rfl, h⟩ | ⟨d, hd, rfl, h2, h3⟩
  · exact ⟨-1, rfl, Or.inr ⟨h, rfl⟩⟩
  · exact ⟨nI d, rfl, Or.inl ⟨d, hd, h2, h3, rfl⟩⟩
end DIST
