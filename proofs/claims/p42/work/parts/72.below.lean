/-! crossings of the lines of children below a row -/
def ivp (n : Nat) (pr a b g pl : Nat → Nat) (r c d : Nat) : Bool := decide (c < n) && decide (d < n) && decide (g c = r + 1) && decide (g d = r + 1) && decide (pl c < pl d) && decide (mid a b g pl (pr d) < mid a b g pl (pr c))
def cb (n : Nat) (pr a b g pl : Nat → Nat) (r : Nat) : Nat := sm (fun c => cnt (ivp n pr a b g pl r c) n) n
theorem sm_both {f : Nat → Nat → Bool} {n : Nat} (h : ∀ x y, f x y = true → f y x = false) : sm (fun c => cnt (f c) n) n = sm (fun c => cnt (fun d => f c d || f d c) c) n := by
  induction n with
  | zero => rfl
  | succ n ih =>
    have e1 : sm (fun c => cnt (f c) (n + 1)) n = sm (fun c => cnt (f c) n) n + cnt (fun c => f c n) n := by
      rw [cnt_sm, ← sm_add]
      rfl
    have hnn : f n n = false := by
      cases e : f n n with
      | false => rfl
      | true => have := h n n e; rw [e] at this; cases this
    have e2 : cnt (fun d => f n d || f d n) n = cnt (f n) n + cnt (fun c => f c n) n := by
      rw [cnt_sm, cnt_sm, cnt_sm, ← sm_add]
      refine sm_congr fun d _ => ?_
      cases e : f n d with
      | false => simp
      | true => rw [h n d e]; rfl
    rw [sm_s, sm_s, e1, ih, cnt_s, hnn, e2]
    simp
    omega
theorem ivp_asym {n : Nat} {pr a b g pl : Nat → Nat} {r x y : Nat} (h : ivp n pr a b g pl r x y = true) : ivp n pr a b g pl r y x = false := by
  unfold ivp at h ⊢
  simp only [Bool.and_eq_true, decide_eq_true_eq] at h
  rw [decide_eq_false (by omega : ¬ pl y < pl x)]
  simp
section BELOW
variable {n u : Nat} {pr a b g : Nat → Nat} {an : Nat → Nat → Bool} {fam : Nat → Int64} {pu fp sp ge lv od rs po fb sb : Nat → Int32} {pl : Nat → Nat} {bx : Nat → Nat → Nat}
theorem mid_lt (W : WF n u pr a b g) (L : LAY n u a b g pl bx) {w : Nat} (hw : w < u) : mid a b g pl w < 56 := by
  have := pa_lt W L hw
  have := pb_lt W L hw
  unfold mid; omega
theorem WF.child (W : WF n u pr a b g) {p r : Nat} (hp : p < n) (h : g p = r + 1) : pr p < u := by
  by_cases e : pr p < 12
  · exact W.pr12 hp e
  · have := W.gen0 hp e; omega
theorem WF.lvl (W : WF n u pr a b g) {p r : Nat} (hp : p < n) (h : pr p < 12) : g p = r + 1 ↔ lw a b g (pr p) = r := by
  rw [W.gen hp h]; unfold lw; omega
theorem X7_midPar (W : WF n u pr a b g) (F : FX n u pr a b pu fp sp) (P : PLX n u a b g pl po) (B : FBX u a b g fb sb) {p : Nat} (hp : p < n) (h : pr p < u) :
    p7_middleOfParents pu fb po sb (nI p) = nI (mid a b g pl (pr p)) := by
  have hu := W.u12
  unfold p7_middleOfParents
  rw [F.at_pu W.n16 hp, oN_in (by omega), X7_middleOf W P B h]
/-- the pairs that the class counts, box by box -/
def ivb (pr a b g pl : Nat → Nat) (x y : Nat) : Bool := decide (x < 16) && decide (y < 16) && decide (mid a b g pl (pr y) < mid a b g pl (pr x))
theorem cb_places (W : WF n u pr a b g) (L : LAY n u a b g pl bx) {r : Nat} :
    sm (fun k => cnt (fun k2 => decide (k < k2) && ivb pr a b g pl (bx (r + 1) k) (bx (r + 1) k2)) (sz n u a b g (r + 1))) (sz n u a b g (r + 1)) = cb n pr a b g pl r := by
  have hn := W.n16
  have hb : ∀ k, k < sz n u a b g (r + 1) → bx (r + 1) k < 28 ∧ inr n u a b g (r + 1) (bx (r + 1) k) = true ∧ pl (bx (r + 1) k) = k := fun k hk => by
    obtain ⟨q1, q2, q3, q4⟩ := L.2 _ _ hk
    exact ⟨q1, inr_iff.mpr ⟨q2, q3⟩, q4⟩
  have hp : ∀ x, x < 28 → inr n u a b g (r + 1) x = true → pl x < sz n u a b g (r + 1) ∧ bx (r + 1) (pl x) = x := fun x hx h => by
    obtain ⟨q1, q2⟩ := inr_iff.mp h
    have := L.1 x hx q1
    rw [q2] at this
    exact this
  have hin : ∀ x, cnt (fun k2 => decide (pl x < k2) && ivb pr a b g pl x (bx (r + 1) k2)) (sz n u a b g (r + 1)) = cnt (fun y => inr n u a b g (r + 1) y && (decide (pl x < pl y) && ivb pr a b g pl x y)) 28 := by
    intro x
    rw [cnt_sm, cnt_sm]
    have := sm_places hb hp (fun y => if decide (pl x < pl y) && ivb pr a b g pl x y then 1 else 0)
    rw [sm_congr (g := fun k => if decide (pl x < pl (bx (r + 1) k)) && ivb pr a b g pl x (bx (r + 1) k) then 1 else 0) (fun k hk => by rw [(hb k hk).2.2]), this]
    refine sm_congr fun y _ => ?_
    cases inr n u a b g (r + 1) y
    · rfl
    · simp
  have h1 := sm_places hb hp (fun x => cnt (fun y => inr n u a b g (r + 1) y && (decide (pl x < pl y) && ivb pr a b g pl x y)) 28)
  rw [sm_congr (g := fun k => cnt (fun y => inr n u a b g (r + 1) y && (decide (pl (bx (r + 1) k) < pl y) && ivb pr a b g pl (bx (r + 1) k) y)) 28) (fun k hk => by rw [← hin, (hb k hk).2.2]), h1]
  unfold cb
  rw [sm_ext0 (n := n) (m := 28) (by omega) (fun x h1 h2 => by
    by_cases h16 : x < 16
    · rw [inr_pout h1 h16]; rfl
    · cases inr n u a b g (r + 1) x
      · rfl
      · rw [if_pos rfl, cnt_ext0 (n := 0) (by omega) (fun y _ _ => by unfold ivb; rw [decide_eq_false h16]; simp)]; rfl)]
  refine sm_congr fun x hx => ?_
  cases e : inr n u a b g (r + 1) x with
  | false =>
    have hg : ¬ g x = r + 1 := fun q => by rw [(inr_p hx hn).mpr q] at e; cases e
    rw [cnt_ext0 (f := ivp n pr a b g pl r x) (n := 0) (by omega) (fun y _ _ => by unfold ivp; rw [decide_eq_false hg]; simp)]
    rfl
  | true =>
    have hg : g x = r + 1 := (inr_p hx hn).mp e
    rw [if_pos rfl, cnt_ext0 (n := n) (m := 28) (by omega) (fun y h1 h2 => by
      by_cases h16 : y < 16
      · rw [inr_pout h1 h16]; rfl
      · unfold ivb; rw [decide_eq_false h16]; simp)]
    refine cnt_congr fun y hy => ?_
    unfold ivp ivb
    rw [decide_eq_true hx, decide_eq_true hy, decide_eq_true hg, decide_eq_true (by omega : x < 16), decide_eq_true (by omega : y < 16)]
    by_cases hgy : g y = r + 1
    · rw [(inr_p hy hn).mpr hgy, decide_eq_true hgy]
      simp
    · have : inr n u a b g (r + 1) y = false := by
        cases e2 : inr n u a b g (r + 1) y with
        | false => rfl
        | true => exact absurd ((inr_p hy hn).mp e2) hgy
      rw [this, decide_eq_false hgy]
      simp
theorem cb_out {r : Nat} (h : ∀ p, p < n → g p ≠ r + 1) : cb n pr a b g pl r = 0 := by
  unfold cb
  rw [sm_congr (g := fun _ => 0) (fun c hc => by
    rw [cnt_ext0 (n := 0) (by omega) (fun y _ _ => by unfold ivp; rw [decide_eq_false (h c hc)]; simp)]
    rfl), sm_zero]
theorem X7_countBelow (W : WF n u pr a b g) (F : FX n u pr a b pu fp sp) (R : RX n u a b g pl bx od rs po fb sb) (L : LAY n u a b g pl bx) {r : Nat} (hr : r < 100) :
    p7_countCrossingsBelow (nI (rowsN g n)) pu fb od po rs sb (nI r) = some (nI (cb n pr a b g pl r)) := by
  obtain ⟨R1, R2, R3, R4⟩ := R
  have hn := W.n16
  have hR := rows16 W
  unfold p7_countCrossingsBelow
  rw [n0, n1, nI_add, if_neg (nI_nlt (by omega) (by omega))]
  by_cases hr1 : r + 1 < rowsN g n
  · rw [if_pos (nI_lt hr1 (by omega)), X7_boxCountOf W R1 hr1]
    simp only [lb]
    have hsz := sz_le W (r := r + 1)
    have hin : ∀ k, k < sz n u a b g (r + 1) → ∀ s0, p7_countCrossingsBelow_L55 pu fb od po rs sb (nI (sz n u a b g (r + 1))) (nI (bx (r + 1) k)) (nI r) FU (nI s0) (nI (k + 1)) = some (nI (s0 + cnt (fun k2 => decide (k < k2) && ivb pr a b g pl (bx (r + 1) k) (bx (r + 1) k2)) (sz n u a b g (r + 1)))) := by
      intro k hk s0
      obtain ⟨q1, q2, q3, q4⟩ := L.2 _ _ hk
      have hL := loop_up (fun t i (s : Nat) => p7_countCrossingsBelow_L55 pu fb od po rs sb (nI (sz n u a b g (r + 1))) (nI (bx (r + 1) k)) (nI r) t (nI s) (nI i)) (sz n u a b g (r + 1))
        (fun i s => k < i ∧ s = s0 + cnt (fun k2 => decide (k < k2) && ivb pr a b g pl (bx (r + 1) k) (bx (r + 1) k2)) i) (fun s => s = nI (s0 + cnt (fun k2 => decide (k < k2) && ivb pr a b g pl (bx (r + 1) k) (bx (r + 1) k2)) (sz n u a b g (r + 1)))) (by
          intro t s hs
          refine ⟨nI s, ?_, by rw [hs.2]⟩
          try dsimp only
          rw [p7_countCrossingsBelow_L55, p7_countCrossingsBelow_L55_B, if_pos (nI_le (Nat.le_refl _) (by omega))]) (by
          intro t i s hi hs
          obtain ⟨v1, v2, v3, v4⟩ := L.2 _ _ hi
          try dsimp only
          rw [p7_countCrossingsBelow_L55, p7_countCrossingsBelow_L55_B, if_neg (nI_ge hi (by omega)), n16]
          by_cases h16 : bx (r + 1) k < 16
          · refine Or.inl ⟨s0 + cnt (fun k2 => decide (k < k2) && ivb pr a b g pl (bx (r + 1) k) (bx (r + 1) k2)) (i + 1), ?_, by omega, rfl⟩
            rw [if_neg (nI_ge h16 (by omega)), n1, nI_add, X7_boxAt W R1 R2 hr1 hi]
            simp only [lb]
            rw [cnt_s, decide_eq_true hs.1, Bool.true_and, nI_add, hs.2]
            unfold ivb
            rw [decide_eq_true h16, Bool.true_and]
            by_cases h16b : bx (r + 1) i < 16
            · have p1 : bx (r + 1) k < n := by rw [th_p h16] at q2; exact of_decide_eq_true q2
              have p2 : bx (r + 1) i < n := by rw [th_p h16b] at v2; exact of_decide_eq_true v2
              have g1 := W.child p1 (r := r) ((rb_p h16).symm.trans q3)
              have g2 := W.child p2 (r := r) ((rb_p h16b).symm.trans v3)
              have m1 := mid_lt W L g1
              have m2 := mid_lt W L g2
              rw [if_neg (nI_ge h16b (by omega)), X7_midPar W F R3 R4 p1 g1, X7_midPar W F R3 R4 p2 g2, decide_eq_true h16b, Bool.true_and]
              by_cases hm : mid a b g pl (pr (bx (r + 1) i)) < mid a b g pl (pr (bx (r + 1) k))
              · rw [if_neg (nI_ge hm (by omega)), nI_add, decide_eq_true hm]; rfl
              · rw [if_pos (nI_le (by omega) (by omega)), decide_eq_false hm]; rfl
            · rw [if_pos (nI_le (by omega) (by omega)), decide_eq_false h16b]; rfl
          · refine Or.inr ⟨nI s, ?_, ?_⟩
            · rw [if_pos (nI_le (by omega) (by omega))]
            · have h0 : ∀ m, cnt (fun k2 => decide (k < k2) && ivb pr a b g pl (bx (r + 1) k) (bx (r + 1) k2)) m = 0 := fun m => by
                rw [cnt_ext0 (n := 0) (by omega) (fun j _ _ => by unfold ivb; rw [decide_eq_false h16]; simp)]
                rfl
              rw [hs.2, h0, h0]) FU (k + 1) s0 (by omega) (by show sz n u a b g (r + 1) - (k + 1) < 1024; omega) ⟨by omega, by rw [cnt_ge hk]; rfl⟩
      obtain ⟨s, e1, f1⟩ := hL
      try dsimp only at e1
      rw [e1, f1]
    have hL := loop_all (fun t i (s : Nat) => p7_countCrossingsBelow_L32 pu fb od po rs sb (nI (sz n u a b g (r + 1))) (nI r) t (nI s) (nI i)) (sz n u a b g (r + 1))
      (fun i s => s = sm (fun k => cnt (fun k2 => decide (k < k2) && ivb pr a b g pl (bx (r + 1) k) (bx (r + 1) k2)) (sz n u a b g (r + 1))) i) (fun s => s = nI (cb n pr a b g pl r)) (by
        intro t s hs
        refine ⟨nI s, ?_, by rw [hs, cb_places W L]⟩
        try dsimp only
        rw [p7_countCrossingsBelow_L32, p7_countCrossingsBelow_L32_B, if_pos (nI_le (Nat.le_refl _) (by omega))]) (by
        intro t i s hi hs
        refine ⟨sm (fun k => cnt (fun k2 => decide (k < k2) && ivb pr a b g pl (bx (r + 1) k) (bx (r + 1) k2)) (sz n u a b g (r + 1))) (i + 1), ?_, rfl⟩
        try dsimp only
        rw [p7_countCrossingsBelow_L32, p7_countCrossingsBelow_L32_B, if_neg (nI_ge hi (by omega)), n1, nI_add, X7_boxAt W R1 R2 hr1 hi]
        simp only [lb]
        rw [nI_add, hin i hi]
        simp only [ob, p7_countCrossingsBelow_J110, lb]
        rw [n1, nI_add, sm_s, hs]) FU 0 0 (Nat.zero_le _) (by show sz n u a b g (r + 1) - 0 < 1024; omega) rfl
    obtain ⟨s, e1, f1⟩ := hL
    try dsimp only at e1
    rw [e1]
    simp only [ob, p7_countCrossingsBelow_J116]
    rw [f1]
  · rw [if_neg (nI_nlt (by omega) (by omega)), cb_out (fun p hp q => by have := rowsN_lt (g := g) hp; omega)]
end BELOW
