/-! middles and crossings -/
def pa (a b g pl : Nat → Nat) (w : Nat) : Nat := pl (bxa a b g w)
def pb (a b g pl : Nat → Nat) (w : Nat) : Nat := pl (bxb a b g w)
def mid (a b g pl : Nat → Nat) (w : Nat) : Nat := pa a b g pl w + pb a b g pl w
abbrev XP (p q x y : Nat) : Prop := p ≠ x ∧ p ≠ y ∧ q ≠ x ∧ q ≠ y ∧ ((min p q < x ∧ x < max p q) ↔ ¬ (min p q < y ∧ y < max p q))
theorem XP.sym {p q x y : Nat} : XP p q x y ↔ XP x y p q := by unfold XP; omega
def crs (a b g pl : Nat → Nat) (w v : Nat) : Bool := decide (XP (pa a b g pl w) (pb a b g pl w) (pa a b g pl v) (pb a b g pl v))
theorem crs_sym {a b g pl : Nat → Nat} {w v : Nat} : crs a b g pl w v = crs a b g pl v w := by
  unfold crs
  exact decide_eq_decide.mpr XP.sym
theorem btw_nI {x p q : Nat} (hx : x < 100) (hp : p < 100) (hq : q < 100) : (if nI x ≤ imin (nI p) (nI q) then false else (if imax (nI p) (nI q) ≤ nI x then false else true)) = decide (min p q < x ∧ x < max p q) := by
  rw [imin_nI (by omega) (by omega), imax_nI (by omega) (by omega)]
  by_cases h1 : x ≤ min p q
  · rw [if_pos (nI_le h1 (by omega)), decide_eq_false (by omega)]
  · rw [if_neg (nI_ge (by omega) (by omega))]
    by_cases h2 : max p q ≤ x
    · rw [if_pos (nI_le h2 (by omega)), decide_eq_false (by omega)]
    · rw [if_neg (nI_ge (by omega) (by omega)), decide_eq_true (by omega)]
theorem bI_eq {x y : Bool} : bI x = bI y ↔ x = y := by cases x <;> cases y <;> decide
theorem cross_nI {α : Type} {p q x y : Nat} (hp : p < 100) (hq : q < 100) (hx : x < 100) (hy : y < 100) (F T : α) :
    (if nI p = nI x then F else (if nI p = nI y then F else (if nI q = nI x then F else (if nI q = nI y then F else (if bI (decide (min p q < x ∧ x < max p q)) = bI (decide (min p q < y ∧ y < max p q)) then F else T))))) = if XP p q x y then T else F := by
  by_cases h1 : p = x
  · rw [if_pos (by rw [h1]), if_neg (by unfold XP; omega)]
  · rw [if_neg (fun z => h1 ((nI_eq (by omega) (by omega)).mp z))]
    by_cases h2 : p = y
    · rw [if_pos (by rw [h2]), if_neg (by unfold XP; omega)]
    · rw [if_neg (fun z => h2 ((nI_eq (by omega) (by omega)).mp z))]
      by_cases h3 : q = x
      · rw [if_pos (by rw [h3]), if_neg (by unfold XP; omega)]
      · rw [if_neg (fun z => h3 ((nI_eq (by omega) (by omega)).mp z))]
        by_cases h4 : q = y
        · rw [if_pos (by rw [h4]), if_neg (by unfold XP; omega)]
        · rw [if_neg (fun z => h4 ((nI_eq (by omega) (by omega)).mp z))]
          by_cases h5 : (min p q < x ∧ x < max p q) ↔ (min p q < y ∧ y < max p q)
          · rw [if_pos (bI_eq.mpr (decide_eq_decide.mpr h5)), if_neg (by unfold XP; omega)]
          · rw [if_neg (fun z => h5 (decide_eq_decide.mp (bI_eq.mp z))), if_pos (by unfold XP; omega)]
section CROSS
variable {n u : Nat} {pr a b g : Nat → Nat} {an : Nat → Nat → Bool} {fam : Nat → Int64} {pu fp sp ge lv od rs po fb sb : Nat → Int32} {pl : Nat → Nat} {bx : Nat → Nat → Nat}
theorem pa_lt (W : WF n u pr a b g) (L : LAY n u a b g pl bx) {w : Nat} (hw : w < u) : pa a b g pl w < 28 := by
  obtain ⟨h1, h2, h3⟩ := bxa_ok W hw
  have := (L.1 _ h1 h2).1
  have := sz_le W (r := rb a b g (bxa a b g w))
  unfold pa; omega
theorem pb_lt (W : WF n u pr a b g) (L : LAY n u a b g pl bx) {w : Nat} (hw : w < u) : pb a b g pl w < 28 := by
  obtain ⟨h1, h2, h3⟩ := bxb_ok W hw
  have := (L.1 _ h1 h2).1
  have := sz_le W (r := rb a b g (bxb a b g w))
  unfold pb; omega
theorem X7_pa (W : WF n u pr a b g) (P : PLX n u a b g pl po) (B : FBX u a b g fb sb) {w : Nat} (hw : w < u) : pAt 28 po (pAt 12 fb (nI w)) = nI (pa a b g pl w) := by
  have hu := W.u12
  obtain ⟨h1, h2, h3⟩ := bxa_ok W hw
  rw [at_in (by omega) (by omega), (B w hw).1, at_in h1 (by omega), P _ h1 h2]
  rfl
theorem X7_pb (W : WF n u pr a b g) (P : PLX n u a b g pl po) (B : FBX u a b g fb sb) {w : Nat} (hw : w < u) : pAt 28 po (pAt 12 sb (nI w)) = nI (pb a b g pl w) := by
  have hu := W.u12
  obtain ⟨h1, h2, h3⟩ := bxb_ok W hw
  rw [at_in (by omega) (by omega), (B w hw).2, at_in h1 (by omega), P _ h1 h2]
  rfl
theorem X7_middleOf (W : WF n u pr a b g) (P : PLX n u a b g pl po) (B : FBX u a b g fb sb) {w : Nat} (hw : w < u) : p7_middleOf fb po sb (nI w) = nI (mid a b g pl w) := by
  unfold p7_middleOf
  rw [X7_pa W P B hw, X7_pb W P B hw, nI_add]
  rfl
theorem X7_cross (W : WF n u pr a b g) (P : PLX n u a b g pl po) (B : FBX u a b g fb sb) (L : LAY n u a b g pl bx) {w v : Nat} (hw : w < u) (hv : v < u) : p7_cross fb po sb (nI w) (nI v) = crs a b g pl w v := by
  have k1 := pa_lt W L hw
  have k2 := pb_lt W L hw
  have k3 := pa_lt W L hv
  have k4 := pb_lt W L hv
  unfold p7_cross
  rw [X7_pa W P B hw, X7_pb W P B hw, X7_pa W P B hv, X7_pb W P B hv]
  simp only [lb]
  unfold p7_liesBetween
  rw [btw_nI (by omega) (by omega) (by omega), btw_nI (by omega) (by omega) (by omega), cross_nI (by omega) (by omega) (by omega) (by omega)]
  unfold crs
  by_cases h : XP (pa a b g pl w) (pb a b g pl w) (pa a b g pl v) (pb a b g pl v)
  · rw [if_pos h, decide_eq_true h]
  · rw [if_neg h, decide_eq_false h]
/-- crossings between unions of a level -/
def cpr (a b g pl : Nat → Nat) (r w v : Nat) : Bool := decide (lw a b g w = r) && decide (lw a b g v = r) && crs a b g pl w v
def ci (u : Nat) (a b g pl : Nat → Nat) (r : Nat) : Nat := sm (fun w => cnt (cpr a b g pl r w) w) u
theorem sm_if {f : Nat → Nat} {c : Bool} {n : Nat} : (if c then sm f n else 0) = sm (fun i => if c then f i else 0) n := by
  cases c
  · exact (sm_zero n).symm
  · rfl
theorem sm_lower {f : Nat → Nat → Bool} {n : Nat} (h : ∀ x y, f x y = f y x) : sm (fun w => cnt (fun v => decide (w < v) && f w v) n) n = sm (fun w => cnt (f w) w) n := by
  rw [sm_congr (g := fun w => sm (fun v => if (decide (w < v) && f w v) then 1 else 0) n) (fun w _ => cnt_sm _ _), sm_swap]
  refine sm_congr fun v hv => ?_
  rw [sm_ext0 (Nat.le_of_lt hv) (fun w h1 _ => by rw [decide_eq_false (by omega)]; rfl), cnt_sm]
  refine sm_congr fun w hw => ?_
  rw [decide_eq_true hw, Bool.true_and, h]
theorem cnt_ge {f : Nat → Bool} {w n : Nat} (hw : w < n) : cnt (fun v => decide (w < v) && f v) (w + 1) = 0 := by
  rw [cnt_ext0 (n := 0) (by omega) (fun i _ hi => by rw [decide_eq_false (by omega)]; rfl)]
  rfl
theorem X7_countCrossed (W : WF n u pr a b g) (R : ∀ w, w < u → lv w = nI (lw a b g w)) (P : PLX n u a b g pl po) (B : FBX u a b g fb sb) (L : LAY n u a b g pl bx) {w r : Nat} (hw : w < u) (hr : r < 100) (hl : lw a b g w = r) :
    p7_countCrossed (nI u) lv fb po sb (nI w) (nI r) = some (nI (cnt (fun v => decide (w < v) && cpr a b g pl r w v) u)) := by
  have hu := W.u12
  unfold p7_countCrossed
  rw [n1, nI_add]
  simp only [lb]
  have h0 : (0 : Int32) = nI (cnt (fun v => decide (w < v) && cpr a b g pl r w v) (w + 1)) := by rw [cnt_ge hw]; rfl
  have hL := loop_all (fun k i (s : Nat) => p7_countCrossed_L7 lv (nI u) fb po sb (nI w) (nI r) k (nI s) (nI i)) u
    (fun i s => w < i ∧ s = cnt (fun v => decide (w < v) && cpr a b g pl r w v) i) (fun s => s = nI (cnt (fun v => decide (w < v) && cpr a b g pl r w v) u)) (by
      intro k s hs
      refine ⟨nI s, ?_, by rw [hs.2]⟩
      try dsimp only
      rw [p7_countCrossed_L7, p7_countCrossed_L7_B, if_pos (nI_le (Nat.le_refl _) (by omega))]) (by
      intro k i s hi hs
      have kl := lw_lt W hi
      refine ⟨cnt (fun v => decide (w < v) && cpr a b g pl r w v) (i + 1), ?_, by omega, rfl⟩
      try dsimp only
      rw [p7_countCrossed_L7, p7_countCrossed_L7_B, if_neg (nI_ge hi (by omega)), at_in (by omega) (by omega), R i hi, cnt_s, hs.2, decide_eq_true hs.1, Bool.true_and]
      unfold cpr
      rw [decide_eq_true hl, Bool.true_and]
      by_cases e : lw a b g i = r
      · rw [if_pos (by rw [e]), X7_cross W P B L hw hi, decide_eq_true e, Bool.true_and]
        simp only [lb]
        cases crs a b g pl w i
        · rw [cond_false, n1, nI_add]; rfl
        · rw [cond_true, n1, nI_add, nI_add]; rfl
      · rw [if_neg (fun z => e ((nI_eq (by omega) (by omega)).mp z)), decide_eq_false e, Bool.false_and]
        simp only [lb]
        rw [n1, nI_add]; rfl) FU (w + 1) (cnt (fun v => decide (w < v) && cpr a b g pl r w v) (w + 1)) (by omega) (by show u - (w + 1) < 1024; omega) ⟨by omega, rfl⟩
  obtain ⟨s, e1, f1⟩ := hL
  try dsimp only at e1
  rw [h0, e1]
  simp only [ob, p7_countCrossed_J54]
  rw [f1]
theorem X7_countIn (W : WF n u pr a b g) (R : ∀ w, w < u → lv w = nI (lw a b g w)) (P : PLX n u a b g pl po) (B : FBX u a b g fb sb) (L : LAY n u a b g pl bx) {r : Nat} (hr : r < 100) :
    p7_countCrossingsIn (nI u) lv fb po sb (nI r) = some (nI (ci u a b g pl r)) := by
  have hu := W.u12
  have hci : ci u a b g pl r = sm (fun w => cnt (fun v => decide (w < v) && cpr a b g pl r w v) u) u := by
    unfold ci
    refine (sm_lower (f := fun w v => cpr a b g pl r w v) fun x y => ?_).symm
    try dsimp only
    unfold cpr
    rw [crs_sym, Bool.and_comm (decide (lw a b g x = r))]
  unfold p7_countCrossingsIn
  have hL := loop_all (fun k i (s : Nat) => p7_countCrossingsIn_L4 lv (nI u) fb po sb (nI r) k (nI s) (nI i)) u
    (fun i s => s = sm (fun w => cnt (fun v => decide (w < v) && cpr a b g pl r w v) u) i) (fun s => s = nI (ci u a b g pl r)) (by
      intro k s hs
      refine ⟨nI s, ?_, by rw [hs, hci]⟩
      try dsimp only
      rw [p7_countCrossingsIn_L4, p7_countCrossingsIn_L4_B, if_pos (nI_le (Nat.le_refl _) (by omega))]) (by
      intro k i s hi hs
      have kl := lw_lt W hi
      refine ⟨sm (fun w => cnt (fun v => decide (w < v) && cpr a b g pl r w v) u) (i + 1), ?_, rfl⟩
      try dsimp only
      rw [p7_countCrossingsIn_L4, p7_countCrossingsIn_L4_B, if_neg (nI_ge hi (by omega)), at_in (by omega) (by omega), R i hi, sm_s, hs]
      by_cases e : lw a b g i = r
      · rw [if_pos (by rw [e]), X7_countCrossed W R P B L hi hr e]
        simp only [ob, lb]
        rw [n1, nI_add, nI_add]
      · rw [if_neg (fun z => e ((nI_eq (by omega) (by omega)).mp z))]
        simp only [lb]
        have h0 : cnt (fun v => decide (i < v) && cpr a b g pl r i v) u = 0 := by
          rw [cnt_ext0 (n := 0) (by omega) (fun j _ _ => by unfold cpr; rw [decide_eq_false e]; simp)]
          rfl
        rw [n1, nI_add]
        simp only [h0, Nat.add_zero]) FU 0 0 (Nat.zero_le _) (by show u - 0 < 1024; omega) rfl
  obtain ⟨s, e1, f1⟩ := hL
  try dsimp only at e1
  rw [n0, e1]
  simp only [ob, p7_countCrossingsIn_J45]
  rw [f1]
end CROSS
