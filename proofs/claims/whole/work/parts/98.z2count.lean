/-! the reference's counts -/
section CNTM
variable {n u : Nat} {pr a b g : Nat → Nat} {an : Nat → Nat → Bool} {fam : Nat → Int64} {pu fp sp ge am lv rf rs : Nat → Int32} {it : Nat → Bool}
theorem M_childrenOf (W : WF n u pr a b g) (F : MX n u pr a b fam) {p : Nat} (hp : p < n) : p10_childrenOf fam (nI p) = some (mkm (kid n pr a b p)) := by
  have hn := W.n16
  have hu := W.u12
  obtain ⟨z, e1, h1⟩ := loop_all (fun t i (z : Int32) => p10_childrenOf_L4 fam (nI p) t z (nI i)) u
    (fun i z => ∀ q, bt z q = (decide (q < n) && (decide (pr q < i) && (a (pr q) == p || b (pr q) == p)))) (fun z => z = mkm (kid n pr a b p)) (by
      intro t z hz
      refine ⟨z, ?_, mkm_eq fun q => ?_⟩
      · try dsimp only
        rw [p10_childrenOf_L4, p10_childrenOf_L4_B, M_unions F]
        simp only [ob]
        rw [if_pos (nI_le (Nat.le_refl _) (by omega))]
      · rw [hz q]
        unfold kid
        by_cases hq : q < n
        · rw [decide_eq_true (show q < 16 by omega), Bool.true_and]
          congr 2
          by_cases c : pr q < 12
          · have := W.pr12 hq c
            rw [decide_eq_true c, decide_eq_true this]
          · rw [decide_eq_false c, decide_eq_false (by omega)]
        · rw [decide_eq_false hq, Bool.false_and, Bool.false_and, Bool.and_false]) (by
      intro t i z hi hz
      have hc : ∀ q, (decide (q < n) && (decide (pr q < i + 1) && (a (pr q) == p || b (pr q) == p))) = ((decide (q < n) && (decide (pr q < i) && (a (pr q) == p || b (pr q) == p))) || (decide (q < n) && pr q == i && (a i == p || b i == p))) := by
        intro q
        by_cases e : pr q = i
        · rw [e, decide_eq_true (show i < i + 1 by omega), decide_eq_false (show ¬ i < i by omega)]
          simp
        · have e2 : decide (pr q < i + 1) = decide (pr q < i) := by
            by_cases h : pr q < i
            · rw [decide_eq_true h, decide_eq_true (by omega)]
            · rw [decide_eq_false h, decide_eq_false (by omega)]
          have e3 : (pr q == i) = false := beq_eq_false_iff_ne.mpr e
          rw [e2, e3]
          simp
      by_cases c : (a i == p || b i == p) = true
      · refine ⟨z ||| mkm (fun q => decide (q < n) && pr q == i), ?_, fun q => ?_⟩
        · try dsimp only
          rw [p10_childrenOf_L4, p10_childrenOf_L4_B, M_unions F]
          simp only [ob]
          rw [if_neg (nI_ge hi (by omega)), M_isPartner W F hi (by omega), c]
          simp only [cond_true]
          rw [M_childMask W F (by omega)]
          simp only [lb_eq]
          rw [n1, nI_add]
        · rw [bt_or, hz q, bt_mkm, hc q, c, Bool.and_true]
          congr 1
          by_cases hq : q < n
          · rw [decide_eq_true (show q < 16 by omega), Bool.true_and]
          · rw [decide_eq_false hq, Bool.false_and, Bool.and_false]
      · rw [Bool.not_eq_true] at c
        refine ⟨z ||| 0, ?_, fun q => ?_⟩
        · try dsimp only
          rw [p10_childrenOf_L4, p10_childrenOf_L4_B, M_unions F]
          simp only [ob]
          rw [if_neg (nI_ge hi (by omega)), M_isPartner W F hi (by omega), c]
          simp only [cond_false, lb_eq]
          rw [n1, nI_add]
        · rw [bt_or, bt_zero, Bool.or_false, hz q, hc q, c, Bool.and_false, Bool.or_false]) FU 0 0 (Nat.zero_le _) (by show u - 0 < 1024; omega) (fun q => by rw [bt_zero, decide_eq_false (show ¬ pr q < 0 by omega), Bool.false_and, Bool.and_false])
  have e1' : p10_childrenOf_L4 fam (nI p) FU (nI 0) (nI 0) = some z := e1
  unfold p10_childrenOf
  rw [n0, e1', ← h1]
  rfl
theorem M_unionsOf (W : WF n u pr a b g) (F : MX n u pr a b fam) {p : Nat} (hp : p < n) : p10_unionsOf fam (nI p) = some (nI (cnt (fun w => a w == p || b w == p) u)) := by
  have hn := W.n16
  have hu := W.u12
  obtain ⟨z, e1, h1⟩ := loop_all (fun t i (z : Unit) => p10_unionsOf_L4 fam (nI p) t (nI (cnt (fun w => a w == p || b w == p) i)) (nI i)) u
    (fun _ _ => True) (fun z => z = nI (cnt (fun w => a w == p || b w == p) u)) (by
      intro t z _
      refine ⟨_, ?_, rfl⟩
      try dsimp only
      rw [p10_unionsOf_L4, p10_unionsOf_L4_B, M_unions F]
      simp only [ob]
      rw [if_pos (nI_le (Nat.le_refl _) (by omega))]) (by
      intro t i z hi _
      refine ⟨(), ?_, trivial⟩
      try dsimp only
      rw [p10_unionsOf_L4, p10_unionsOf_L4_B, M_unions F]
      simp only [ob]
      rw [if_neg (nI_ge hi (by omega)), M_isPartner W F hi (by omega), cnt_s]
      simp only []
      cases (a i == p || b i == p) with
      | true =>
        rw [cond_true, if_pos rfl]
        simp only [lb_eq]
        rw [n1, nI_add, nI_add]
      | false =>
        rw [cond_false, if_neg (by decide)]
        simp only [lb_eq]
        rw [n0, n1, nI_add, nI_add]) FU 0 () (Nat.zero_le _) (by show u - 0 < 1024; omega) trivial
  have e1' : p10_unionsOf_L4 fam (nI p) FU (nI 0) (nI 0) = some z := e1
  unfold p10_unionsOf
  rw [n0, e1', h1]
  rfl
theorem M_noParents (W : WF n u pr a b g) (F : MX n u pr a b fam) : p10_personsWithout fam true = some (nI (cnt (fun p => !decide (pr p < 12)) n)) := by
  have hn := W.n16
  obtain ⟨z, e1, h1⟩ := loop_all (fun t i (z : Unit) => p10_personsWithout_L4 fam true t (nI (cnt (fun p => !decide (pr p < 12)) i)) (nI i)) n
    (fun _ _ => True) (fun z => z = nI (cnt (fun p => !decide (pr p < 12)) n)) (by
      intro t z _
      refine ⟨_, ?_, rfl⟩
      try dsimp only
      rw [p10_personsWithout_L4, p10_personsWithout_L4_B, M_persons F]
      simp only [ob]
      rw [if_pos (nI_le (Nat.le_refl _) (by omega))]) (by
      intro t i z hi _
      refine ⟨(), ?_, trivial⟩
      try dsimp only
      rw [p10_personsWithout_L4, p10_personsWithout_L4_B, M_persons F]
      simp only [ob]
      rw [if_neg (nI_ge hi (by omega)), cond_true, M_parentsOf F hn hi, cnt_s]
      simp only []
      unfold p10_personsWithout_J48
      by_cases c : pr i < 12
      · rw [oN_in c, if_neg (nI_m1 (by omega)), cond_false, decide_eq_true c, if_neg (by decide)]
        simp only [lb_eq]
        rw [n0, n1, nI_add, nI_add]
      · rw [oN_out c, decide_eq_false c, cond_true]
        simp only [lb_eq, if_true]
        rw [n1, nI_add, nI_add]
        rfl) FU 0 () (Nat.zero_le _) (by show n - 0 < 1024; omega) trivial
  have e1' : p10_personsWithout_L4 fam true FU (nI 0) (nI 0) = some z := e1
  unfold p10_personsWithout
  rw [n0, e1', h1]
  rfl
theorem M_noKids (W : WF n u pr a b g) (F : MX n u pr a b fam) : p10_personsWithout fam false = some (nI (cnt (fun p => decide (mkm (kid n pr a b p) = 0)) n)) := by
  have hn := W.n16
  obtain ⟨z, e1, h1⟩ := loop_all (fun t i (z : Unit) => p10_personsWithout_L4 fam false t (nI (cnt (fun p => decide (mkm (kid n pr a b p) = 0)) i)) (nI i)) n
    (fun _ _ => True) (fun z => z = nI (cnt (fun p => decide (mkm (kid n pr a b p) = 0)) n)) (by
      intro t z _
      refine ⟨_, ?_, rfl⟩
      try dsimp only
      rw [p10_personsWithout_L4, p10_personsWithout_L4_B, M_persons F]
      simp only [ob]
      rw [if_pos (nI_le (Nat.le_refl _) (by omega))]) (by
      intro t i z hi _
      refine ⟨(), ?_, trivial⟩
      try dsimp only
      rw [p10_personsWithout_L4, p10_personsWithout_L4_B, M_persons F]
      simp only [ob]
      rw [if_neg (nI_ge hi (by omega)), cond_false, M_childrenOf W F hi, cnt_s]
      simp only []
      unfold p10_personsWithout_J48
      by_cases c : mkm (kid n pr a b i) = 0
      · rw [if_pos c, decide_eq_true c, cond_true]
        simp only [lb_eq, if_true]
        rw [n1, nI_add, nI_add]
      · rw [if_neg c, decide_eq_false c, cond_false]
        rw [if_neg (show ¬ (false = true) by decide)]
        simp only [lb_eq]
        rw [n0, n1, nI_add, nI_add]) FU 0 () (Nat.zero_le _) (by show n - 0 < 1024; omega) trivial
  have e1' : p10_personsWithout_L4 fam false FU (nI 0) (nI 0) = some z := e1
  unfold p10_personsWithout
  rw [n0, e1', h1]
  rfl
theorem M_boxCountL {f : Nat → Bool} (h : ∀ x, x < 28 → it x = f x) {k : Nat} (hk : k ≤ 28) : p10_boxCount it (nI k) = some (nI (cnt f 28 - cnt f k)) := by
  obtain ⟨z, e1, h1⟩ := loop_all (fun t i (z : Unit) => p10_boxCount_L4 it t (nI (cnt f i - cnt f k)) (nI i)) 28
    (fun i _ => k ≤ i) (fun z => z = nI (cnt f 28 - cnt f k)) (by
      intro t z _
      refine ⟨_, ?_, rfl⟩
      try dsimp only
      rw [p10_boxCount_L4, p10_boxCount_L4_B, n28, if_pos (nI_le (Nat.le_refl _) (by omega))]) (by
      intro t i z hi hk
      refine ⟨(), ?_, by omega⟩
      have hm : cnt f k ≤ cnt f i := cnt_mono hk
      try dsimp only
      rw [p10_boxCount_L4, p10_boxCount_L4_B, n28, if_neg (nI_ge hi (by omega)), gd_in hi (by omega), nI_clamp (by omega), h i hi, cnt_s]
      cases f i with
      | true =>
        rw [cond_true, if_pos rfl]
        simp only [lb_eq]
        rw [n1, nI_add, nI_add, show cnt f i + 1 - cnt f k = cnt f i - cnt f k + 1 by omega]
      | false =>
        rw [cond_false, if_neg (by decide)]
        simp only [lb_eq]
        rw [n0, n1, nI_add, nI_add]
        rfl) FU k () hk (by show 28 - k < 1024; omega) (Nat.le_refl _)
  have e1' : p10_boxCount_L4 it FU (nI 0) (nI k) = some z := by
    have e2 : p10_boxCount_L4 it FU (nI (cnt f k - cnt f k)) (nI k) = some z := e1
    rw [Nat.sub_self] at e2
    exact e2
  unfold p10_boxCount
  rw [n0, e1', h1]
  rfl
theorem M_desc (W : WF n u pr a b g) (AN : ANC n pr a b an) (F : MX n u pr a b fam) {p : Nat} (hp : p < n) : p10_descendantMask fam (nI p) = some (mkm fun q => decide (q < n) && an q p) := by
  have hn := W.n16
  obtain ⟨z, e1, h1⟩ := loop_all (fun t i (z : Int32) => p10_descendantMask_L4 fam (nI p) t z (nI i)) n
    (fun i z => ∀ q, bt z q = (decide (q < i) && an q p)) (fun z => z = mkm fun q => decide (q < n) && an q p) (by
      intro t z hz
      refine ⟨z, ?_, mkm_eq fun q => ?_⟩
      · try dsimp only
        rw [p10_descendantMask_L4, p10_descendantMask_L4_B, M_persons F]
        simp only [ob]
        rw [if_pos (nI_le (Nat.le_refl _) (by omega))]
      · rw [hz q]
        by_cases hq : q < n
        · rw [decide_eq_true (show q < 16 by omega), Bool.true_and]
        · rw [decide_eq_false hq, Bool.false_and, Bool.and_false]) (by
      intro t i z hi hz
      have hb : ((mkm (an i) >>> (nI p &&& 31)) &&& 1) <<< (nI i &&& 31) = if an i p then (1 : Int32) <<< (nI i &&& 31) else 0 := by
        by_cases c : an i p = true
        · rw [if_pos c, (bt_shr1 (by omega)).mpr (by rw [bt_mkm, c, decide_eq_true (by omega)]; rfl)]
        · rw [if_neg c, (bt_shr (by omega)).mpr (by rw [bt_mkm]; rw [Bool.not_eq_true] at c; rw [c, Bool.and_false])]
          refine bt_ext fun q _ => ?_
          rw [bt_zero]
          unfold bt
          have : ((0 : Int32) <<< (nI i &&& 31)) = 0 := by
            have : ∀ i, i < 32 → ((0 : Int32) <<< (nI i &&& 31)) = 0 := by decide +kernel
            exact this i (by omega)
          rw [this]
          simp
      refine ⟨z ||| (if an i p then (1 : Int32) <<< (nI i &&& 31) else 0), ?_, fun q => ?_⟩
      · try dsimp only
        rw [p10_descendantMask_L4, p10_descendantMask_L4_B, M_persons F]
        simp only [ob]
        rw [if_neg (nI_ge hi (by omega)), M_ancestorMask W AN F hi]
        simp only [lb_eq]
        rw [hb, n1, nI_add]
      · rw [bt_or, hz q]
        by_cases e : q = i
        · rw [e, decide_eq_false (by omega), decide_eq_true (by omega), Bool.false_and, Bool.false_or, Bool.true_and]
          cases an i p with
          | true => rw [if_pos rfl, bt_shl (by omega), decide_eq_true rfl]
          | false => rw [if_neg (by decide), bt_zero]
        · have e2 : decide (q < i + 1) = decide (q < i) := by
            by_cases h : q < i
            · rw [decide_eq_true h, decide_eq_true (by omega)]
            · rw [decide_eq_false h, decide_eq_false (by omega)]
          rw [e2]
          cases an i p with
          | true => rw [if_pos rfl, bt_shl (by omega), decide_eq_false e, Bool.or_false]
          | false => rw [if_neg (by decide), bt_zero, Bool.or_false]) FU 0 0 (Nat.zero_le _) (by show n - 0 < 1024; omega) (fun q => by rw [bt_zero, decide_eq_false (by omega), Bool.false_and])
  have e1' : p10_descendantMask_L4 fam (nI p) FU (nI 0) (nI 0) = some z := e1
  unfold p10_descendantMask
  rw [n0, e1', h1]
  rfl
end CNTM
