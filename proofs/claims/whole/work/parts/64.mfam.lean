/-! the reference's row of numbers -/
def lO (k : Nat) : Int64 := if k < 12 then lN k else -1
theorem lO_i (k : Nat) : (lO k).toInt32 = oN k := by
  unfold lO oN
  split
  · exact lN_i k
  · rfl
def MX (n u : Nat) (pr a b : Nat → Nat) (fam : Nat → Int64) : Prop :=
  fam 0 = lN n ∧ fam 1 = lN u ∧ (∀ p, p < n → fam (2 + 4 * p + 1) = lO (pr p)) ∧ ∀ w, w < u → fam (66 + 3 * w) = lN (a w) ∧ fam (66 + 3 * w + 1) = lN (b w)
theorem idx_cases (v : Int32) (n : Nat) (hn : n < 2147483648) : (∃ p, p < n ∧ v = nI p) ∨ (v < 0 ∨ nI n ≤ v) := by
  by_cases h : v < 0
  · exact Or.inr (Or.inl h)
  · obtain ⟨j, hj, rfl⟩ := nI_of h
    by_cases h2 : j < n
    · exact Or.inl ⟨j, h2, rfl⟩
    · exact Or.inr (Or.inr (nI_le (by omega) hj))
theorem inRange_in {p n : Nat} (h : p < n) (hn : n < 2147483648) : p10_inRange (nI p).toInt64 0 (lN n - 1) = true := by
  have h1 : lN n - 1 = lN (n - 1) := lN_sub (a := n) (b := 1) (by omega)
  unfold p10_inRange
  rw [nI_l (by omega), h1, if_neg (fun q => by have := (lN_lt (a := p) (b := 0) (by omega) (by omega)).mp q; omega), if_neg (fun q => by have := (lN_lt (by omega) (by omega)).mp q; omega)]
theorem inRange_out {v : Int32} {n : Nat} (h : v < 0 ∨ nI n ≤ v) (hn : n < 2147483648) : p10_inRange v.toInt64 0 (lN n - 1) = false := by
  unfold p10_inRange
  rcases h with h | h
  · rw [if_pos]
    rw [Int64.lt_iff_toInt_lt, Int32.toInt_toInt64]
    have h0 : (0 : Int64).toInt = 0 := by decide
    have h1 := Int32.lt_iff_toInt_lt.mp h
    have h2 : (0 : Int32).toInt = 0 := by decide
    omega
  · have h1 := Int32.le_iff_toInt_le.mp h
    rw [nI_toInt hn] at h1
    have h0 : (0 : Int64).toInt = 0 := by decide
    rw [if_neg (by rw [Int64.lt_iff_toInt_lt, Int32.toInt_toInt64]; omega), if_pos]
    by_cases hz : n = 0
    · subst hz
      have h3 : (lN 0 - 1).toInt = -1 := by decide
      rw [Int64.lt_iff_toInt_lt, Int32.toInt_toInt64, h3]; omega
    · have h3 : lN n - 1 = lN (n - 1) := lN_sub (a := n) (b := 1) (by omega)
      rw [Int64.lt_iff_toInt_lt, Int32.toInt_toInt64, h3, lN_toInt (by omega)]; omega
theorem hasPerson_in {p n : Nat} (h : p < n) (hn : n < 2147483648) : p1_hasPerson (nI n) (nI p) = true := by
  unfold p1_hasPerson
  rw [n0, if_neg (nI_nlt (Nat.zero_le _) (by omega)), if_neg (nI_ge h hn)]
theorem hasPerson_out {v : Int32} {n : Nat} (h : v < 0 ∨ nI n ≤ v) : p1_hasPerson (nI n) v = false := by
  unfold p1_hasPerson
  by_cases e : v < 0
  · rw [if_pos e]
  · rw [if_neg e, if_pos (h.resolve_left e)]
section MFAM
variable {n u : Nat} {pr a b g : Nat → Nat} {an : Nat → Nat → Bool} {fam : Nat → Int64}
theorem M_persons (F : MX n u pr a b fam) : p10_persons fam = some (nI n) := by
  show gd (nI 0) 130 _ = _
  rw [gd_in (by omega) (by omega)]
  show some (fam 0).toInt32 = _
  rw [F.1, lN_i]
theorem M_unions (F : MX n u pr a b fam) : p10_unions fam = some (nI u) := by
  show gd (nI 1) 130 _ = _
  rw [gd_in (by omega) (by omega)]
  show some (fam 1).toInt32 = _
  rw [F.2.1, lN_i]
theorem M_ofPerson {p f : Nat} (hp : p < 16) (hf : f < 4) : p10_ofPerson fam (nI p) (nI f) = some (fam (2 + 4 * p + f)) := by
  unfold p10_ofPerson
  rw [n2, n4, nI_mul, nI_add, nI_add, gd_in (by omega) (by omega), nI_clamp (by omega)]
theorem M_putPerson {p f : Nat} (hp : p < 16) (hf : f < 4) (x : Int64) : p10_putPerson fam (nI p) (nI f) x = some (vp_updL fam (2 + 4 * p + f) x) := by
  unfold p10_putPerson
  rw [n2, n4, nI_mul, nI_add, nI_add, gd_in (by omega) (by omega), nI_clamp (by omega)]
  rfl
theorem M_parentsOf (F : MX n u pr a b fam) (hn : n ≤ 16) {p : Nat} (hp : p < n) : p10_parentsOf fam (nI p) = some (oN (pr p)) := by
  unfold p10_parentsOf
  rw [n1, M_ofPerson (by omega) (by omega)]
  show some (fam (2 + 4 * p + 1)).toInt32 = _
  rw [F.2.2.1 p hp, lO_i]
theorem M_partner0 (F : MX n u pr a b fam) (hu : u ≤ 12) {w : Nat} (hw : w < u) : p10_partner fam (nI w) (nI 0) = some (nI (a w)) := by
  unfold p10_partner
  rw [n66, n3, nI_mul, nI_add, nI_add, gd_in (by omega) (by omega), nI_clamp (by omega), Nat.add_zero, (F.2.2.2 w hw).1, lN_i]
theorem M_partner1 (F : MX n u pr a b fam) (hu : u ≤ 12) {w : Nat} (hw : w < u) : p10_partner fam (nI w) (nI 1) = some (nI (b w)) := by
  unfold p10_partner
  rw [n66, n3, nI_mul, nI_add, nI_add, gd_in (by omega) (by omega), nI_clamp (by omega), (F.2.2.2 w hw).2, lN_i]
theorem M_isPartner (W : WF n u pr a b g) (F : MX n u pr a b fam) {w p : Nat} (hw : w < u) (hp : p < 2147483648) : p10_isPartner fam (nI w) (nI p) = some (a w == p || b w == p) := by
  have hn := W.n16
  obtain ⟨h1, h2, -⟩ := W.par hw
  unfold p10_isPartner
  rw [n0, M_partner0 F W.u12 hw]
  simp only [ob]
  by_cases e : a w = p
  · rw [if_pos (by rw [e])]; simp [e]
  · rw [if_neg (fun q => e ((nI_eq (by omega) hp).mp q)), n1, M_partner1 F W.u12 hw]
    simp only
    by_cases e2 : b w = p
    · rw [if_pos (by rw [e2])]; simp [e2]
    · rw [if_neg (fun q => e2 ((nI_eq (by omega) hp).mp q))]; simp [e, e2]
theorem M_isPerson (F : MX n u pr a b fam) {v : Int32} : p10_isPerson fam v = some (p10_inRange v.toInt64 0 (lN n - 1)) := by
  show gd (nI 0) 130 _ = _
  rw [gd_in (by omega) (by omega)]
  show some (p10_inRange v.toInt64 0 (fam 0 - 1)) = _
  rw [F.1]
theorem M_isUnion (F : MX n u pr a b fam) {v : Int32} : p10_isUnion fam v = some (p10_inRange v.toInt64 0 (lN u - 1)) := by
  show gd (nI 1) 130 _ = _
  rw [gd_in (by omega) (by omega)]
  show some (p10_inRange v.toInt64 0 (fam 1 - 1)) = _
  rw [F.2.1]
theorem M_levelOf (W : WF n u pr a b g) (F : MX n u pr a b fam) {ge : Nat → Int32} {w : Nat} (hw : w < u) : p10_levelOf fam ge (nI w) = some (imax (ge (a w)) (ge (b w))) := by
  have hn := W.n16
  obtain ⟨h1, h2, -⟩ := W.par hw
  unfold p10_levelOf
  rw [n0, M_partner0 F W.u12 hw]
  simp only [ob]
  rw [gd_in (by omega) (by omega), n1, M_partner1 F W.u12 hw]
  simp only
  rw [gd_in (by omega) (by omega), nI_clamp (by omega), nI_clamp (by omega)]
theorem M_childMask (W : WF n u pr a b g) (F : MX n u pr a b fam) {w : Nat} (hw : w < 12) : p10_childMask fam (nI w) = some (mkm fun q => decide (q < n) && pr q == w) := by
  have hn := W.n16
  have h := ex_eq (loop_all (fun k i (s : Int32) => p10_childMask_L4 fam (nI w) k s (nI i)) n (fun i s => ∀ q, bt s q = (decide (q < i) && pr q == w)) (fun r => r = mkm fun q => decide (q < n) && pr q == w) ?_ ?_ FU 0 (nI 0) (Nat.zero_le _) (by show n - 0 < 1024; omega) (fun q => by rw [← n0, bt_zero]; simp))
  · unfold p10_childMask
    rw [n0, h]
    rfl
  · intro k s hs
    refine ⟨s, ?_, mkm_eq fun q => ?_⟩
    · try dsimp only
      rw [p10_childMask_L4, p10_childMask_L4_B]
      rw [M_persons F]
      simp only [ob]
      rw [if_pos (nI_le (Nat.le_refl _) (by omega))]
    · rw [hs q]
      by_cases hq : q < n
      · rw [decide_eq_true hq, decide_eq_true (show q < 16 by omega)]; rfl
      · rw [decide_eq_false hq]; simp
  · intro k i s hi hs
    have hb : p10_childMask_L4 fam (nI w) (k + 1) s (nI i) = (if oN (pr i) = nI w then p10_childMask_L4 fam (nI w) k (s ||| ((1 : Int32) <<< (nI i &&& 31))) (nI (i + 1)) else p10_childMask_L4 fam (nI w) k (s ||| 0) (nI (i + 1))) := by
      try dsimp only
      rw [p10_childMask_L4, p10_childMask_L4_B]
      rw [M_persons F]
      simp only [ob]
      rw [if_neg (nI_ge hi (by omega)), M_parentsOf F hn hi]
      simp only [lb]
      rw [n1, nI_add]
    rw [hb]
    by_cases e : pr i = w
    · rw [if_pos ((oN_nI hw).mpr e)]
      refine ⟨_, rfl, fun q => ?_⟩
      rw [bt_or, hs q, bt_shl (by omega)]
      by_cases e2 : q = i
      · subst e2; simp [e]
      · rw [decide_eq_false e2, Bool.or_false]
        by_cases h3 : q < i
        · rw [decide_eq_true h3, decide_eq_true (by omega)]
        · rw [decide_eq_false h3, decide_eq_false (by omega)]
    · rw [if_neg (fun q => e ((oN_nI hw).mp q))]
      refine ⟨_, rfl, fun q => ?_⟩
      rw [bt_or, bt_zero, Bool.or_false, hs q]
      by_cases e2 : q = i
      · subst e2; simp [e]
      · by_cases h3 : q < i
        · rw [decide_eq_true h3, decide_eq_true (by omega)]
        · rw [decide_eq_false h3, decide_eq_false (by omega)]
/-- the reference's worklist: more waits, mask is found -/
theorem M_low {x : Int32} {q : Nat} (hq : q < 16) (hx : bt x q = true) : ∃ p, p < 16 ∧ bt x p = true ∧ p10_ancestorMask_L13 x FU (nI 0) = some (nI p) := by
  have hLP := loop_up (fun k i (_ : Unit) => p10_ancestorMask_L13 x k (nI i)) q (fun i _ => i ≤ q) (fun r => ∃ p, p < 16 ∧ bt x p = true ∧ r = nI p) ?_ ?_ FU 0 () (Nat.zero_le _) (by show q - 0 < 1024; omega) (Nat.zero_le _)
  · obtain ⟨r, h1, p, h2, h3, h4⟩ := hLP
    exact ⟨p, h2, h3, by rw [h1, h4]⟩
  · intro k s _
    refine ⟨nI q, ?_, q, hq, hx, rfl⟩
    try dsimp only
    rw [p10_ancestorMask_L13, p10_ancestorMask_L13_B]
    rw [if_neg (fun z => by rw [(bt_shr (by omega)).mp z] at hx; cases hx)]
  · intro k i s hi _
    by_cases e : bt x i = false
    · refine Or.inl ⟨(), ?_, by omega⟩
      try dsimp only
      rw [p10_ancestorMask_L13, p10_ancestorMask_L13_B]
      rw [if_pos ((bt_shr (by omega)).mpr e)]
      simp only [lb]
      rw [n1, nI_add]
    · refine Or.inr ⟨nI i, ?_, i, by omega, by simpa using e, rfl⟩
      try dsimp only
      rw [p10_ancestorMask_L13, p10_ancestorMask_L13_B]
      rw [if_neg (fun z => e ((bt_shr (by omega)).mp z))]
def wst (mask more : Int32) : Nat := sm (fun q => (if bt mask q then 0 else 2) + (if bt more q then 1 else 0)) 16
theorem bt_nbit {p q : Nat} (hp : p < 32) (hq : q < 32) : bt (((1 : Int32) <<< (nI p &&& 31)) ^^^ (-1)) q = !decide (q = p) := by
  rw [bt_xor, bt_shl hp, bt_m1 hq]
  cases decide (q = p) <;> rfl
/-- one partner of the union, met on the way -/
def aMask (mask : Int32) (x : Nat) : Int32 := mask ||| ((1 : Int32) <<< (nI x &&& 31))
def aMore (mask more : Int32) (x : Nat) : Int32 := if bt mask x then more else more ||| ((1 : Int32) <<< (nI x &&& 31))
theorem M_meet (F : MX n u pr a b fam) (W : WF n u pr a b g) {w : Nat} (hw : w < u) (mask more : Int32) : p10_ancestorMask_L48 fam (nI w) FU mask more (nI 0) = some (aMask (aMask mask (a w)) (b w), aMore (aMask mask (a w)) (aMore mask more (a w)) (b w)) := by
  have hn := W.n16
  have hu := W.u12
  obtain ⟨h1, h2, -⟩ := W.par hw
  have hs : ∀ k i x mask more, i < 2 → p10_partner fam (nI w) (nI i) = some (nI x) → x < 16 → p10_ancestorMask_L48 fam (nI w) (k + 1) mask more (nI i) = p10_ancestorMask_L48 fam (nI w) k (aMask mask x) (aMore mask more x) (nI (i + 1)) := by
    intro k i x mask more hi hp hx
    try dsimp only
    rw [p10_ancestorMask_L48, p10_ancestorMask_L48_B]
    rw [n2, if_neg (nI_ge hi (by omega)), if_neg (nI_m1 (by omega)), hp]
    simp only [ob, lb]
    unfold aMask aMore p10_ancestorMask_J88
    simp only [lb]
    have hbt := bt_one (x := mask) (b := (1 : Int32) <<< (nI x &&& 31)) (p := x) (fun q => bt_shl (by omega)) (by omega)
    cases e : bt mask x with
    | false => rw [if_pos (hbt.mpr e), if_neg (by decide), n1, nI_add]
    | true =>
      rw [if_neg (fun q => by rw [hbt.mp q] at e; cases e), if_pos rfl, n1, nI_add]
      congr 1
      exact bt_ext fun q _ => by rw [bt_or, bt_zero, Bool.or_false]
  have hend : ∀ k mask more, p10_ancestorMask_L48 fam (nI w) (k + 1) mask more (nI 2) = some (mask, more) := by
    intro k mask more
    try dsimp only
    rw [p10_ancestorMask_L48, p10_ancestorMask_L48_B]
    rw [n2, if_pos (nI_le (Nat.le_refl _) (by omega))]
  rw [show FU = 1021 + 1 + 1 + 1 from rfl, hs _ 0 (a w) mask more (by omega) (M_partner0 F hu hw) (by omega), hs _ 1 (b w) _ _ (by omega) (M_partner1 F hu hw) (by omega), hend]
end MFAM
