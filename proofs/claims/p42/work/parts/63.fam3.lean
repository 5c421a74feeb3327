theorem ex_eq {α : Type} {o : Option α} {x : α} (h : ∃ r, o = some r ∧ r = x) : o = some x := by
  obtain ⟨r, h1, h2⟩ := h
  rw [h1, h2]
/-- the mask of the numbers below 16 with f -/
def mkF (f : Nat → Bool) : Nat → Int32
  | 0 => 0
  | k + 1 => mkF f k ||| (if f k then (1 : Int32) <<< (nI k &&& 31) else 0)
def mkm (f : Nat → Bool) : Int32 := mkF f 16
theorem bt_mkF (f : Nat → Bool) {k : Nat} (hk : k ≤ 32) (q : Nat) : bt (mkF f k) q = (decide (q < k) && f q) := by
  induction k with
  | zero => rw [show mkF f 0 = 0 from rfl, bt_zero]; simp
  | succ k ih =>
    unfold mkF
    rw [bt_or, ih (by omega)]
    by_cases e : q = k
    · subst e
      cases hf : f q with
      | false => simp [bt_zero]
      | true => simp [bt_shl (show q < 32 by omega)]
    · have h1 : decide (q < k + 1) = decide (q < k) := by
        by_cases h : q < k
        · rw [decide_eq_true h, decide_eq_true (by omega)]
        · rw [decide_eq_false h, decide_eq_false (by omega)]
      rw [h1]
      cases hf : f k with
      | false => simp [bt_zero]
      | true =>
        rw [if_pos rfl, bt_shl (by omega), decide_eq_false e, Bool.or_false]
theorem bt_mkm (f : Nat → Bool) (q : Nat) : bt (mkm f) q = (decide (q < 16) && f q) := bt_mkF f (by omega) q
theorem mkm_eq {r : Int32} {f : Nat → Bool} (h : ∀ q, bt r q = (decide (q < 16) && f q)) : r = mkm f := bt_ext fun q _ => by rw [h, bt_mkm]
theorem mkm_congr {f f' : Nat → Bool} (h : ∀ q, q < 16 → f q = f' q) : mkm f = mkm f' := mkm_eq fun q => by
  rw [bt_mkm]
  by_cases hq : q < 16
  · rw [h q hq]
  · rw [decide_eq_false hq]; rfl
theorem mkm_inj {f f' : Nat → Bool} (h : mkm f = mkm f') {q : Nat} (hq : q < 16) : f q = f' q := by
  have h1 := bt_mkm f q
  rw [h, bt_mkm, decide_eq_true hq] at h1
  simpa using h1.symm
section FAM3
variable {n u : Nat} {pr a b g : Nat → Nat} {an : Nat → Nat → Bool} {pu fp sp ge am lv rf : Nat → Int32}
/-- q is a child of p -/
def kid (n : Nat) (pr a b : Nat → Nat) (p q : Nat) : Bool := decide (q < n) && (decide (pr q < 12) && (a (pr q) == p || b (pr q) == p))
theorem X1_childMask (W : WF n u pr a b g) (F : FX n u pr a b pu fp sp) {w : Nat} (hw : w < 12) : p1_childMask (nI n) pu (nI w) = some (mkm fun q => decide (q < n) && pr q == w) := by
  have hn := W.n16
  have h := ex_eq (loop_all (fun k i (s : Int32) => p1_childMask_L4 pu (nI n) (nI w) k s (nI i)) n (fun i s => ∀ q, bt s q = (decide (q < i) && pr q == w)) (fun r => r = mkm fun q => decide (q < n) && pr q == w) ?_ ?_ FU 0 (nI 0) (Nat.zero_le _) (by show n - 0 < 1024; omega) (fun q => by rw [← n0, bt_zero]; simp))
  · unfold p1_childMask
    rw [n0, h]
    rfl
  · intro k s hs
    refine ⟨s, ?_, mkm_eq fun q => ?_⟩
    · show (if nI n ≤ nI n then some s else _) = some s
      rw [if_pos (nI_le (Nat.le_refl _) (by omega))]
    · rw [hs q]
      by_cases hq : q < n
      · rw [decide_eq_true hq, decide_eq_true (show q < 16 by omega)]; rfl
      · rw [decide_eq_false hq]; simp
  · intro k i s hi hs
    have hb : p1_childMask_L4 pu (nI n) (nI w) (k + 1) s (nI i) = (if pAt 16 pu (nI i) = nI w then p1_childMask_L4 pu (nI n) (nI w) k (s ||| p9_bit (nI i)) (nI (i + 1)) else p1_childMask_L4 pu (nI n) (nI w) k s (nI (i + 1))) := by
      try dsimp only
      rw [p1_childMask_L4, p1_childMask_L4_B]
      rw [if_neg (nI_ge hi (by omega))]
      simp only [lb]
      rw [n1, nI_add]
    rw [hb, F.at_pu hn hi]
    by_cases e : pr i = w
    · rw [if_pos ((oN_nI hw).mpr e)]
      refine ⟨_, rfl, fun q => ?_⟩
      rw [bt_or, hs q, bt_bit (by omega)]
      by_cases e2 : q = i
      · subst e2; simp [e]
      · rw [decide_eq_false e2, Bool.or_false]
        by_cases h3 : q < i
        · rw [decide_eq_true h3, decide_eq_true (by omega)]
        · rw [decide_eq_false h3, decide_eq_false (by omega)]
    · rw [if_neg (fun q => e ((oN_nI hw).mp q))]
      refine ⟨_, rfl, fun q => ?_⟩
      rw [hs q]
      by_cases e2 : q = i
      · subst e2; simp [e]
      · by_cases h3 : q < i
        · rw [decide_eq_true h3, decide_eq_true (by omega)]
        · rw [decide_eq_false h3, decide_eq_false (by omega)]
theorem X1_kids (W : WF n u pr a b g) (F : FX n u pr a b pu fp sp) {p : Nat} (hp : p < 2147483648) : p1_childMaskOfPerson (nI n) (nI u) fp pu sp (nI p) = some (mkm (kid n pr a b p)) := by
  have hn := W.n16
  have hu := W.u12
  have h := ex_eq (loop_all (fun k i (s : Int32) => p1_childMaskOfPerson_L4 fp pu (nI n) sp (nI u) (nI p) k s (nI i)) u (fun i s => ∀ q, bt s q = (decide (q < n) && (decide (pr q < i) && (a (pr q) == p || b (pr q) == p)))) (fun r => r = mkm (kid n pr a b p)) ?_ ?_ FU 0 (nI 0) (Nat.zero_le _) (by show u - 0 < 1024; omega) (fun q => by rw [← n0, bt_zero]; simp))
  · unfold p1_childMaskOfPerson
    rw [n0, h]
    rfl
  · intro k s hs
    refine ⟨s, ?_, mkm_eq fun q => ?_⟩
    · show (if nI u ≤ nI u then some s else _) = some s
      rw [if_pos (nI_le (Nat.le_refl _) (by omega))]
    · rw [hs q]
      unfold kid
      by_cases hq : q < n
      · rw [decide_eq_true hq, decide_eq_true (show q < 16 by omega)]
        by_cases h12 : pr q < 12
        · rw [decide_eq_true h12, decide_eq_true (W.pr12 hq h12)]; rfl
        · rw [decide_eq_false h12, decide_eq_false (by omega)]; rfl
      · rw [decide_eq_false hq]; simp
  · intro k i s hi hs
    have hb : p1_childMaskOfPerson_L4 fp pu (nI n) sp (nI u) (nI p) (k + 1) s (nI i) = cond (p1_isPartner fp sp (nI i) (nI p)) (ob (p1_childMask (nI n) pu (nI i)) (fun r24 => p1_childMaskOfPerson_L4 fp pu (nI n) sp (nI u) (nI p) k (s ||| r24) (nI (i + 1)))) (p1_childMaskOfPerson_L4 fp pu (nI n) sp (nI u) (nI p) k s (nI (i + 1))) := by
      try dsimp only
      rw [p1_childMaskOfPerson_L4, p1_childMaskOfPerson_L4_B]
      rw [if_neg (nI_ge hi (by omega))]
      simp only [lb]
      rw [n1, nI_add]
    rw [hb, X1_isPartner W F hi hp, X1_childMask W F (by omega)]
    have hsplit : ∀ q, decide (pr q < i + 1) = (decide (pr q < i) || pr q == i) := fun q => by
      by_cases h3 : pr q = i
      · simp [h3]
      · by_cases h4 : pr q < i
        · rw [decide_eq_true h4, decide_eq_true (by omega)]; rfl
        · rw [decide_eq_false h4, decide_eq_false (by omega)]; simp [h3]
    cases e : (a i == p || b i == p) with
    | true =>
      refine ⟨_, rfl, fun q => ?_⟩
      rw [bt_or, hs q, bt_mkm, hsplit]
      by_cases e2 : pr q = i
      · rw [e2, e]
        by_cases hq : q < n
        · simp [hq, show q < 16 by omega]
        · simp [hq]
      · rw [show (pr q == i) = false from beq_eq_false_iff_ne.mpr e2]; simp
    | false =>
      refine ⟨_, rfl, fun q => ?_⟩
      rw [hs q, hsplit]
      by_cases e2 : pr q = i
      · rw [e2, e]; simp
      · rw [show (pr q == i) = false from beq_eq_false_iff_ne.mpr e2]; simp
theorem X1_desc (W : WF n u pr a b g) (hr : ∀ p, p < n → RT g an ge am p) {p : Nat} (hp : p < n) : p1_descendantMask (nI n) am (nI p) = some (mkm fun q => decide (q < n) && an q p) := by
  have hn := W.n16
  have h := ex_eq (loop_all (fun k i (s : Int32) => p1_descendantMask_L4 am (nI n) (nI p) k s (nI i)) n (fun i s => ∀ q, bt s q = (decide (q < i) && an q p)) (fun r => r = mkm fun q => decide (q < n) && an q p) ?_ ?_ FU 0 (nI 0) (Nat.zero_le _) (by show n - 0 < 1024; omega) (fun q => by rw [← n0, bt_zero]; simp))
  · unfold p1_descendantMask
    rw [n0, h]
    rfl
  · intro k s hs
    refine ⟨s, ?_, mkm_eq fun q => ?_⟩
    · show (if nI n ≤ nI n then some s else _) = some s
      rw [if_pos (nI_le (Nat.le_refl _) (by omega))]
    · rw [hs q]
      by_cases hq : q < n
      · rw [decide_eq_true hq, decide_eq_true (show q < 16 by omega)]; rfl
      · rw [decide_eq_false hq]; simp
  · intro k i s hi hs
    have hb : p1_descendantMask_L4 am (nI n) (nI p) (k + 1) s (nI i) = (if (pAt 16 am (nI i)) &&& p9_bit (nI p) = 0 then p1_descendantMask_L4 am (nI n) (nI p) k s (nI (i + 1)) else p1_descendantMask_L4 am (nI n) (nI p) k (s ||| p9_bit (nI i)) (nI (i + 1))) := by
      try dsimp only
      rw [p1_descendantMask_L4, p1_descendantMask_L4_B]
      rw [if_neg (nI_ge hi (by omega))]
      simp only [lb]
      rw [n1, nI_add]
    rw [hb, at_in (by omega) (by omega)]
    have hbt := bt_one (x := am i) (b := p9_bit (nI p)) (p := p) (fun q => bt_bit (by omega)) (by omega)
    rw [(hr i hi).2 p] at hbt
    cases e : an i p with
    | false =>
      rw [if_pos (hbt.mpr e)]
      refine ⟨_, rfl, fun q => ?_⟩
      rw [hs q]
      by_cases e2 : q = i
      · subst e2; simp [e]
      · by_cases h3 : q < i
        · rw [decide_eq_true h3, decide_eq_true (by omega)]
        · rw [decide_eq_false h3, decide_eq_false (by omega)]
    | true =>
      rw [if_neg (fun q => by rw [hbt.mp q] at e; cases e)]
      refine ⟨_, rfl, fun q => ?_⟩
      rw [bt_or, hs q, bt_bit (by omega)]
      by_cases e2 : q = i
      · subst e2; simp [e]
      · rw [decide_eq_false e2, Bool.or_false]
        by_cases h3 : q < i
        · rw [decide_eq_true h3, decide_eq_true (by omega)]
        · rw [decide_eq_false h3, decide_eq_false (by omega)]
theorem X1_unionsOf (W : WF n u pr a b g) (F : FX n u pr a b pu fp sp) {p : Nat} (hp : p < 2147483648) : p1_countUnionsOf (nI u) fp sp (nI p) = some (nI (cnt (fun w => a w == p || b w == p) u)) := by
  have hu := W.u12
  have h := ex_eq (loop_all (fun k i (s : Int32) => p1_countUnionsOf_L4 fp sp (nI u) (nI p) k s (nI i)) u (fun i s => s = nI (cnt (fun w => a w == p || b w == p) i)) (fun r => r = nI (cnt (fun w => a w == p || b w == p) u)) ?_ ?_ FU 0 (nI 0) (Nat.zero_le _) (by show u - 0 < 1024; omega) rfl)
  · unfold p1_countUnionsOf
    rw [n0, h]
    rfl
  · intro k s hs
    refine ⟨s, ?_, hs⟩
    show (if nI u ≤ nI u then some s else _) = some s
    rw [if_pos (nI_le (Nat.le_refl _) (by omega))]
  · intro k i s hi hs
    have hb : p1_countUnionsOf_L4 fp sp (nI u) (nI p) (k + 1) s (nI i) = cond (p1_isPartner fp sp (nI i) (nI p)) (p1_countUnionsOf_L4 fp sp (nI u) (nI p) k (s + 1) (nI (i + 1))) (p1_countUnionsOf_L4 fp sp (nI u) (nI p) k s (nI (i + 1))) := by
      try dsimp only
      rw [p1_countUnionsOf_L4, p1_countUnionsOf_L4_B]
      rw [if_neg (nI_ge hi (by omega))]
      simp only [lb]
      rw [n1, nI_add]
    rw [hb, X1_isPartner W F hi hp]
    unfold cnt
    cases e : (a i == p || b i == p) with
    | true => exact ⟨_, rfl, by rw [hs, n1, nI_add, if_pos rfl]⟩
    | false => exact ⟨_, rfl, by rw [hs, if_neg (by decide)]; rfl⟩
theorem X1_noParents (W : WF n u pr a b g) (F : FX n u pr a b pu fp sp) : p1_countWithoutParents (nI n) pu = some (nI (cnt (fun p => !decide (pr p < 12)) n)) := by
  have hn := W.n16
  have h := ex_eq (loop_all (fun k i (s : Int32) => p1_countWithoutParents_L4 pu (nI n) k s (nI i)) n (fun i s => s = nI (cnt (fun p => !decide (pr p < 12)) i)) (fun r => r = nI (cnt (fun p => !decide (pr p < 12)) n)) ?_ ?_ FU 0 (nI 0) (Nat.zero_le _) (by show n - 0 < 1024; omega) rfl)
  · unfold p1_countWithoutParents
    rw [n0, h]
    rfl
  · intro k s hs
    refine ⟨s, ?_, hs⟩
    show (if nI n ≤ nI n then some s else _) = some s
    rw [if_pos (nI_le (Nat.le_refl _) (by omega))]
  · intro k i s hi hs
    have hb : p1_countWithoutParents_L4 pu (nI n) (k + 1) s (nI i) = cond (p1_hasParents pu (nI i)) (p1_countWithoutParents_L4 pu (nI n) k s (nI (i + 1))) (p1_countWithoutParents_L4 pu (nI n) k (s + 1) (nI (i + 1))) := by
      try dsimp only
      rw [p1_countWithoutParents_L4, p1_countWithoutParents_L4_B]
      rw [if_neg (nI_ge hi (by omega))]
      simp only [lb]
      rw [n1, nI_add]
    rw [hb, X1_hasParents W F hi]
    unfold cnt
    cases e : decide (pr i < 12) with
    | true => exact ⟨_, rfl, by rw [hs]; rfl⟩
    | false => exact ⟨_, rfl, by rw [hs, n1, nI_add]; rfl⟩
theorem X1_noKids (W : WF n u pr a b g) (F : FX n u pr a b pu fp sp) : p1_countWithoutChildren (nI n) (nI u) fp pu sp = some (nI (cnt (fun p => decide (mkm (kid n pr a b p) = 0)) n)) := by
  have hn := W.n16
  have h := ex_eq (loop_all (fun k i (s : Int32) => p1_countWithoutChildren_L4 fp pu (nI n) sp (nI u) k s (nI i)) n (fun i s => s = nI (cnt (fun p => decide (mkm (kid n pr a b p) = 0)) i)) (fun r => r = nI (cnt (fun p => decide (mkm (kid n pr a b p) = 0)) n)) ?_ ?_ FU 0 (nI 0) (Nat.zero_le _) (by show n - 0 < 1024; omega) rfl)
  · unfold p1_countWithoutChildren
    rw [n0, h]
    rfl
  · intro k s hs
    refine ⟨s, ?_, hs⟩
    show (if nI n ≤ nI n then some s else _) = some s
    rw [if_pos (nI_le (Nat.le_refl _) (by omega))]
  · intro k i s hi hs
    have hb : p1_countWithoutChildren_L4 fp pu (nI n) sp (nI u) (k + 1) s (nI i) = ob (p1_childMaskOfPerson (nI n) (nI u) fp pu sp (nI i)) (fun r14 => if r14 = 0 then p1_countWithoutChildren_L4 fp pu (nI n) sp (nI u) k (s + 1) (nI (i + 1)) else p1_countWithoutChildren_L4 fp pu (nI n) sp (nI u) k s (nI (i + 1))) := by
      try dsimp only
      rw [p1_countWithoutChildren_L4, p1_countWithoutChildren_L4_B]
      rw [if_neg (nI_ge hi (by omega))]
      simp only [lb]
      rw [n1, nI_add]
    rw [hb, X1_kids W F (by omega)]
    simp only [ob]
    unfold cnt
    by_cases e : mkm (kid n pr a b i) = 0
    · rw [if_pos e]; exact ⟨_, rfl, by rw [hs, n1, nI_add, if_pos (decide_eq_true e)]⟩
    · rw [if_neg e]; exact ⟨_, rfl, by rw [hs, if_neg (by simpa using e)]; rfl⟩
/-- the union of the pair p, q: the first one -/
def upair (a b : Nat → Nat) (p q : Nat) : Nat → Nat → Nat
  | 0, _ => 12
  | k + 1, w => if (p != q && (a w == p || b w == p) && (a w == q || b w == q)) = true then w else upair a b p q k (w + 1)
theorem X1_pair (W : WF n u pr a b g) (F : FX n u pr a b pu fp sp) {p q : Nat} (hp : p < 2147483648) (hq : q < 2147483648) : p1_unionOfPair (nI u) fp sp (nI p) (nI q) = some (oN (upair a b p q u 0)) := by
  have hu := W.u12
  have key : ∀ d i k, u - i = d → i ≤ u → d < k → ∃ r, p1_unionOfPair_L2 fp sp (nI u) (nI p) (nI q) k (nI i) = some r ∧ ((r = .inr () ∧ upair a b p q d i = 12) ∨ ∃ w, w < u ∧ r = .inl (nI w) ∧ upair a b p q d i = w) := by
    intro d
    induction d with
    | zero =>
      intro i k h1 h2 h3
      obtain ⟨k, rfl⟩ : ∃ j, k = j + 1 := ⟨k - 1, by omega⟩
      have e : i = u := by omega
      subst e
      refine ⟨.inr (), ?_, Or.inl ⟨rfl, rfl⟩⟩
      show (if nI i ≤ nI i then some (Sum.inr ()) else _) = _
      rw [if_pos (nI_le (Nat.le_refl _) (by omega))]
    | succ d ih =>
      intro i k h1 h2 h3
      obtain ⟨k, rfl⟩ : ∃ j, k = j + 1 := ⟨k - 1, by omega⟩
      have hi : i < u := by omega
      obtain ⟨r, f1, f2⟩ := ih (i + 1) k (by omega) (by omega) (by omega)
      have hb : p1_unionOfPair_L2 fp sp (nI u) (nI p) (nI q) (k + 1) (nI i) = (if nI p = nI q then p1_unionOfPair_L2 fp sp (nI u) (nI p) (nI q) k (nI (i + 1)) else cond (p1_isPartner fp sp (nI i) (nI p)) (cond (p1_isPartner fp sp (nI i) (nI q)) (some (.inl (nI i))) (p1_unionOfPair_L2 fp sp (nI u) (nI p) (nI q) k (nI (i + 1)))) (p1_unionOfPair_L2 fp sp (nI u) (nI p) (nI q) k (nI (i + 1)))) := by
        try dsimp only
        rw [p1_unionOfPair_L2, p1_unionOfPair_L2_B]
        rw [if_neg (nI_ge hi (by omega))]
        simp only [lb]
        rw [n1, nI_add]
      rw [hb, X1_isPartner W F hi hp, X1_isPartner W F hi hq]
      unfold upair
      by_cases e : p = q
      · subst e
        rw [if_pos rfl, if_neg (by simp)]
        exact ⟨r, f1, f2⟩
      · rw [if_neg (fun z => e ((nI_eq hp hq).mp z))]
        have hne : (p != q) = true := by simpa using e
        rw [hne]
        cases e1 : (a i == p || b i == p) with
        | false => rw [if_neg (by simp)]; exact ⟨r, f1, f2⟩
        | true =>
          cases e2 : (a i == q || b i == q) with
          | false => rw [if_neg (by simp)]; exact ⟨r, f1, f2⟩
          | true => rw [if_pos (by simp)]; exact ⟨.inl (nI i), rfl, Or.inr ⟨i, hi, rfl, rfl⟩⟩
  obtain ⟨r, f1, f2⟩ := key u 0 FU rfl (Nat.zero_le _) (by show u < 1024; omega)
  unfold p1_unionOfPair
  rw [n0, f1]
  rcases f2 with ⟨rfl, f3⟩ | ⟨w, hw, rfl, f3⟩
  · rw [f3]; rfl
  · rw [f3, oN_in (by omega)]; rfl
theorem X1_ownAnc (W : WF n u pr a b g) (F : FX n u pr a b pu fp sp) (hr : ∀ p, p < n → ∀ q, bt (am p) q = an p q) {w p : Nat} (hw : w < u) (hp : p < n) :
    p1_partnerOrAncestor am fp sp (nI w) (nI p) = (p == a w || an (a w) p || (p == b w || an (b w) p)) := by
  have hn := W.n16
  obtain ⟨h1, h2, -⟩ := W.par hw
  unfold p1_partnerOrAncestor
  rw [F.at_fp W.u12 hw, F.at_sp W.u12 hw]
  simp only [lb]
  have hbt := bt_one (x := p1_lineageMask am (nI (a w)) ||| p1_lineageMask am (nI (b w))) (b := p9_bit (nI p)) (p := p) (fun q => bt_bit (by omega)) (by omega)
  rw [bt_or, X1_lineage (by omega) (hr _ h1), X1_lineage (by omega) (hr _ h2)] at hbt
  cases e : (p == a w || an (a w) p || (p == b w || an (b w) p)) with
  | false => rw [if_pos (hbt.mpr e)]
  | true => rw [if_neg (fun q => by rw [hbt.mp q] at e; cases e)]
end FAM3
