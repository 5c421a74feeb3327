/-! boxes that a strip's edge cuts -/
def cutb (a b g lc col : Nat → Nat) (v x : Nat) : Bool := !decide (col x / v = (col x + wd a b g lc x - 1) / v)
def cutS (n u : Nat) (a b g lc col : Nat → Nat) (v : Nat) : Nat := cnt (fun x => th n u a b g x && cutb a b g lc col v x) 28
section CUT
variable {n u : Nat} {pr a b g lc col : Nat → Nat} {an : Nat → Nat → Bool} {fam : Nat → Int64} {pu fp sp ge am lv ro rf od rs po fb sb rS bA lA fc mc cA : Nat → Int32} {it : Nat → Bool} {pl : Nat → Nat} {bx : Nat → Nat → Nat}
theorem gz_nI {α : Type} {v : Nat} {k : Option α} (h : 0 < v) (hv : v < 2147483648) : gz (nI v) k = k := by
  unfold gz
  rw [n0, if_neg (fun q => absurd ((nI_eq (by omega) (by omega)).mp q) (by omega))]
/-- the boxes of all rows are all boxes -/
theorem cnt_rows (W : WF n u pr a b g) (L : LAY n u a b g pl bx) (f : Nat → Bool) : sm (fun r => cnt (fun k => f (bx r k)) (sz n u a b g r)) (rowsN g n) = cnt (fun x => th n u a b g x && f x) 28 := by
  have h1 : ∀ r, r < rowsN g n → cnt (fun k => f (bx r k)) (sz n u a b g r) = sm (fun x => if inr n u a b g r x then (if f x then 1 else 0) else 0) 28 := by
    intro r _
    rw [cnt_sm]
    exact sm_places (P := inr n u a b g r) (pl := pl) (bx := bx r) (fun k hk => by
      obtain ⟨q1, q2, q3, q4⟩ := L.2 r k hk
      exact ⟨q1, inr_iff.mpr ⟨q2, q3⟩, q4⟩) (fun x hx h => by
      obtain ⟨q1, q2⟩ := inr_iff.mp h
      have := L.1 x hx q1
      rw [q2] at this
      exact this) (fun x => if f x then 1 else 0)
  rw [sm_congr h1, sm_swap, cnt_sm]
  refine sm_congr fun x _ => ?_
  by_cases h : th n u a b g x = true
  · rw [sm_one (th_row W h) (fun r _ hne => by rw [if_neg]; intro q; exact hne (inr_iff.mp q).2.symm), if_pos (inr_self h), h, Bool.true_and]
  · rw [sm_congr (g := fun _ => 0) (fun r _ => by rw [if_neg]; intro q; exact h (inr_iff.mp q).1), sm_zero, if_neg]
    intro q
    simp only [Bool.and_eq_true] at q
    exact h q.1
theorem X0_isCut (W : WF n u pr a b g) (Q : ∀ w, w < u → rf w = rN (rw_ a b g w)) (C : LCX n lc lA) {v x : Nat} (hv : 0 < v) (hv2 : v < 100000) (hx : x < 28) (ht : th n u a b g x = true) (hcol : fc x = nI (col x)) (hc : col x + wd a b g lc x < 1000) :
    p0_isCut fc lA rf (nI x) (nI v) = some (cutb a b g lc col v x) := by
  have hw : 2 ≤ wd a b g lc x := by unfold wd; omega
  unfold p0_isCut
  rw [n0, if_pos (nI_lt hv (by omega)), at_in hx (by omega), hcol]
  simp only [lb]
  rw [X0_widthOf W Q C hx ht, nI_add, n1, nI_sub (by omega), gz_nI hv (by omega), gz_nI hv (by omega), nI_div (by omega) (by omega), nI_div (by omega) (by omega)]
  have k1 := Nat.div_le_self (col x) v
  have k2 := Nat.div_le_self (col x + wd a b g lc x - 1) v
  unfold cutb
  by_cases e : col x / v = (col x + wd a b g lc x - 1) / v
  · rw [if_pos (by rw [e]), decide_eq_true e]; rfl
  · rw [if_neg (fun q => e ((nI_eq (by omega) (by omega)).mp q)), decide_eq_false e]; rfl
theorem X0_countCut (W : WF n u pr a b g) (Q : ∀ w, w < u → rf w = rN (rw_ a b g w)) (C : LCX n lc lA) (R : RX n u a b g pl bx od rs po fb sb) (L : LAY n u a b g pl bx) {v : Nat} (hv : 0 < v) (hv2 : v < 100000) (hcol : ∀ x, x < 28 → th n u a b g x = true → fc x = nI (col x)) (hc : ∀ x, x < 28 → th n u a b g x = true → col x + wd a b g lc x < 1000) :
    p0_countCut (nI (rowsN g n)) fc lA rf od rs (nI v) = some (nI (cutS n u a b g lc col v)) := by
  have hR := rows16 W
  have hin : ∀ r, r < rowsN g n → ∀ s0, p0_countCut_L18 fc lA rf od rs (nI v) (nI r) FU (nI s0) (nI 0) = some (nI (s0 + cnt (fun k => cutb a b g lc col v (bx r k)) (sz n u a b g r))) := by
    intro r hr s0
    have hsz := sz_le W (r := r)
    have hL := loop_all (fun t i (s : Nat) => p0_countCut_L18 fc lA rf od rs (nI v) (nI r) t (nI s) (nI i)) (sz n u a b g r)
      (fun i s => s = s0 + cnt (fun k => cutb a b g lc col v (bx r k)) i) (fun s => s = nI (s0 + cnt (fun k => cutb a b g lc col v (bx r k)) (sz n u a b g r))) (by
        intro t s hs
        refine ⟨nI s, ?_, by rw [hs]⟩
        try dsimp only
        rw [p0_countCut_L18, p0_countCut_L18_B, X7_boxCountOf W R.1 hr, if_pos (nI_le (Nat.le_refl _) (by omega))]) (by
        intro t i s hi hs
        obtain ⟨q1, q2, q3, q4⟩ := L.2 r i hi
        refine ⟨s0 + cnt (fun k => cutb a b g lc col v (bx r k)) (i + 1), ?_, rfl⟩
        try dsimp only
        rw [p0_countCut_L18, p0_countCut_L18_B, X7_boxCountOf W R.1 hr, if_neg (nI_ge hi (by omega)), X7_boxAt W R.1 R.2.1 hr hi, X0_isCut W Q C hv hv2 q1 q2 (hcol _ q1 q2) (hc _ q1 q2), cnt_s, hs]
        simp only [ob, lb]
        cases cutb a b g lc col v (bx r i)
        · rw [cond_false, n1, nI_add]; rfl
        · rw [cond_true, n1, nI_add, nI_add]; rfl) FU 0 s0 (Nat.zero_le _) (by show sz n u a b g r - 0 < 1024; omega) rfl
    obtain ⟨s, e1, f1⟩ := hL
    try dsimp only at e1
    rw [e1, f1]
  have hL := loop_all (fun t i (s : Nat) => p0_countCut_L4 fc lA rf (nI (rowsN g n)) od rs (nI v) t (nI s) (nI i)) (rowsN g n)
    (fun i s => s = sm (fun r => cnt (fun k => cutb a b g lc col v (bx r k)) (sz n u a b g r)) i) (fun s => s = nI (cutS n u a b g lc col v)) (by
      intro t s hs
      refine ⟨nI s, ?_, by rw [hs, cnt_rows W L]; rfl⟩
      try dsimp only
      rw [p0_countCut_L4, p0_countCut_L4_B, if_pos (nI_le (Nat.le_refl _) (by omega))]) (by
      intro t i s hi hs
      refine ⟨sm (fun r => cnt (fun k => cutb a b g lc col v (bx r k)) (sz n u a b g r)) (i + 1), ?_, rfl⟩
      try dsimp only
      rw [p0_countCut_L4, p0_countCut_L4_B, if_neg (nI_ge hi (by omega)), n0, hin i hi]
      simp only [ob, p0_countCut_J58, lb]
      rw [n1, nI_add, sm_s, hs]) FU 0 0 (Nat.zero_le _) (by show rowsN g n - 0 < 1024; omega) rfl
  obtain ⟨s, e1, f1⟩ := hL
  try dsimp only at e1
  unfold p0_countCut
  rw [n0, e1]
  simp only [ob, p0_countCut_J64]
  rw [f1]
end CUT
