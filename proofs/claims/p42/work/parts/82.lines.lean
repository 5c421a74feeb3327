/-! whole lines -/
def rowL (a b g lc col : Nat → Nat) (lt : Nat → Nat → Nat) (bx : Nat → Nat → Nat) (r : Nat) : Nat → Nat × (Nat → Int32) → Nat × (Nat → Int32)
  | 0, s => s
  | k + 1, s => bxl (lt (pp a b g (bx r k))) (decide (bx r k < 16)) (col (bx r k)) (lc (pp a b g (bx r k))) (rowL a b g lc col lt bx r k s)
section LINES
variable {n u : Nat} {pr a b g lc col : Nat → Nat} {lt : Nat → Nat → Nat} {fam : Nat → Int64} {pu fp sp ge am lv rf od rs po fb sb rS bA lA fc mc cA line letters : Nat → Int32} {len : Int32} {pl : Nat → Nat} {bx : Nat → Nat → Nat} {s : Nat × (Nat → Int32)} {N : Nat}
theorem pmk_le {r : Nat} (hs : s.1 ≤ 309) (hm : ∀ p, p < n → mdc a b g lc col p ≤ 308) : ∀ k, k ≤ n → (pmk pr a b g lc col r k s).1 ≤ 309 := by
  intro k
  induction k with
  | zero => intro _; exact hs
  | succ k ih =>
    intro hk
    have h1 := ih (by omega)
    have h2 := hm k (by omega)
    unfold pmk
    split
    · show max _ (mdc a b g lc col k + 1) ≤ 309
      omega
    · exact h1
theorem X4_persons (W : WF n u pr a b g) (F : FX n u pr a b pu fp sp) (hg : ∀ p, p < n → ge p = nI (g p)) {r : Nat} (hr : r < 100) (hmc : ∀ p, p < n → mc p = nI (mdc a b g lc col p)) (hm : ∀ p, p < n → mdc a b g lc col p ≤ 308) (hs : s.1 ≤ 309) (h : LN 400 s line len) :
    ∃ line' len', p4_printPersonMarks (nI n) len mc ge pu line (nI (r + 1)) = some (line', len') ∧ LN 400 (pmk pr a b g lc col r n s) line' len' := by
  have hn := W.n16
  have hL := loop_all (fun t i (z : (Nat → Int32) × Int32) => p4_printPersonMarks_L2 mc ge pu (nI n) (nI (r + 1)) t (nI i) z.1 z.2) n
    (fun i z => LN 400 (pmk pr a b g lc col r i s) z.1 z.2) (fun z => LN 400 (pmk pr a b g lc col r n s) z.1 z.2) (by
      intro t z hz
      refine ⟨z, ?_, hz⟩
      try dsimp only
      rw [p4_printPersonMarks_L2, p4_printPersonMarks_L2_B, if_pos (nI_le (Nat.le_refl _) (by omega))]) (by
      intro t i z hi hz
      have hgi := W.glt hi
      have hmi := hm i hi
      have hle := pmk_le (pr := pr) (r := r) hs hm i (by omega)
      have hstep : pmk pr a b g lc col r (i + 1) s = if g i = r + 1 ∧ (pmk pr a b g lc col r i s).2 (mdc a b g lc col i) = 32 then mk (pmk pr a b g lc col r i s) (mdc a b g lc col i) (nI (97 + pr i)) else pmk pr a b g lc col r i s := rfl
      rw [hstep]
      by_cases e : g i = r + 1
      · have h12 : pr i < 12 := by have := W.child hi e; have := W.u12; omega
        by_cases e2 : (pmk pr a b g lc col r i s).2 (mdc a b g lc col i) = 32
        · rw [if_pos ⟨e, e2⟩]
          refine ⟨(upd z.1 (mdc a b g lc col i) (nI (97 + pr i)), nI (max (pmk pr a b g lc col r i s).1 (mdc a b g lc col i + 1))), ?_, hz.mk⟩
          try dsimp only
          rw [p4_printPersonMarks_L2, p4_printPersonMarks_L2_B, if_neg (nI_ge hi (by omega)), at_in (f := mc) (by omega) (by omega), hmc i hi]
          simp only [lb]
          rw [at_in (f := ge) (by omega) (by omega), hg i hi, e, if_pos rfl, X1_hasParents W F hi, decide_eq_true h12, cond_true, at_in (f := z.1) (by omega) (by omega), hz.2 _ (by omega), if_pos e2, F.at_pu hn hi, oN_in h12]
          unfold p4_markOf
          rw [n97, nI_add, X4_printByte hz (by omega) (by omega)]
          simp only [uc2]
          rw [n1, nI_add]
        · rw [if_neg (fun q => e2 q.2)]
          refine ⟨z, ?_, hz⟩
          try dsimp only
          rw [p4_printPersonMarks_L2, p4_printPersonMarks_L2_B, if_neg (nI_ge hi (by omega)), at_in (f := mc) (by omega) (by omega), hmc i hi]
          simp only [lb]
          rw [at_in (f := ge) (by omega) (by omega), hg i hi, e, if_pos rfl, X1_hasParents W F hi, decide_eq_true h12, cond_true, at_in (f := z.1) (by omega) (by omega), hz.2 _ (by omega), if_neg e2, n1, nI_add]
      · rw [if_neg (fun q => e q.1)]
        refine ⟨z, ?_, hz⟩
        try dsimp only
        rw [p4_printPersonMarks_L2, p4_printPersonMarks_L2_B, if_neg (nI_ge hi (by omega)), at_in (f := mc) (by omega) (by omega), hmc i hi]
        simp only [lb]
        rw [at_in (f := ge) (by omega) (by omega), hg i hi, if_neg (fun q => e ((nI_eq (by omega) (by omega)).mp q)), n1, nI_add]) FU 0 (line, len) (Nat.zero_le _) (by show n - 0 < 1024; omega) h
  obtain ⟨z, e1, e2⟩ := hL
  try dsimp only at e1
  refine ⟨z.1, z.2, ?_, e2⟩
  unfold p4_printPersonMarks
  rw [n0, e1]
  rfl
theorem rowL_le (L : LAY n u a b g pl bx) (hc : ∀ x, x < 28 → th n u a b g x = true → col x + lc (pp a b g x) + 3 ≤ 308) {r : Nat} (hs : s.1 ≤ 308) : ∀ k, k ≤ sz n u a b g r → (rowL a b g lc col lt bx r k s).1 ≤ 308 := by
  intro k
  induction k with
  | zero => intro _; exact hs
  | succ k ih =>
    intro hk
    have h1 := ih (by omega)
    obtain ⟨q1, q2, q3, q4⟩ := L.2 r k (by omega)
    have h2 := hc _ q1 q2
    show max _ (col (bx r k) + lc (pp a b g (bx r k)) + 2) ≤ 308
    omega
theorem X4_boxes (W : WF n u pr a b g) (Q : ∀ w, w < u → rf w = rN (rw_ a b g w)) (C : LCX n lc lA) (T : LTX n lc lt letters) (hlc : ∀ p, p < n → lc p ≤ 8) (R : RX n u a b g pl bx od rs po fb sb) (L : LAY n u a b g pl bx) (hcol : ∀ x, x < 28 → th n u a b g x = true → fc x = nI (col x)) (hc : ∀ x, x < 28 → th n u a b g x = true → col x + lc (pp a b g x) + 3 ≤ 308) {r : Nat} (hr : r < rowsN g n) (hs : s.1 ≤ 308) (h : LN 400 s line len) :
    ∃ line' len', p4_printBoxes len fc lA letters rf line od rs (nI r) = some (line', len') ∧ LN 400 (rowL a b g lc col lt bx r (sz n u a b g r) s) line' len' := by
  have hsz := sz_le W (r := r)
  have hL := loop_all (fun t i (z : (Nat → Int32) × Int32) => p4_printBoxes_L2 fc lA letters rf od rs (nI r) t (nI i) z.1 z.2) (sz n u a b g r)
    (fun i z => LN 400 (rowL a b g lc col lt bx r i s) z.1 z.2) (fun z => LN 400 (rowL a b g lc col lt bx r (sz n u a b g r) s) z.1 z.2) (by
      intro t z hz
      refine ⟨z, ?_, hz⟩
      try dsimp only
      rw [p4_printBoxes_L2, p4_printBoxes_L2_B, X7_boxCountOf W R.1 hr, if_pos (nI_le (Nat.le_refl _) (by omega))]) (by
      intro t i z hi hz
      obtain ⟨q1, q2, q3, q4⟩ := L.2 r i hi
      have hle := rowL_le (lt := lt) L hc (r := r) hs i (by omega)
      have hcb := hc _ q1 q2
      obtain ⟨line1, len1, e1, h1⟩ := X4_printBox W Q C T hlc q1 q2 (hcol _ q1 q2) (by omega) hz (by omega)
      refine ⟨(line1, len1), ?_, h1⟩
      try dsimp only
      rw [p4_printBoxes_L2, p4_printBoxes_L2_B, X7_boxCountOf W R.1 hr, if_neg (nI_ge hi (by omega)), X7_boxAt W R.1 R.2.1 hr hi, e1]
      simp only [ob, uc2, lb]
      rw [n1, nI_add]) FU 0 (line, len) (Nat.zero_le _) (by show sz n u a b g r - 0 < 1024; omega) h
  obtain ⟨z, e1, e2⟩ := hL
  try dsimp only at e1
  refine ⟨z.1, z.2, ?_, e2⟩
  unfold p4_printBoxes
  rw [n0, e1]
  rfl
end LINES
