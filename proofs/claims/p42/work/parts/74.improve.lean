/-! boxes that change places where it helps -/
theorem sm_bd {f : Nat → Nat} {m n : Nat} (h : ∀ i, i < n → f i ≤ m) : sm f n ≤ n * m := by
  induction n with
  | zero => rw [Nat.zero_mul]; exact Nat.le_refl _
  | succ n ih =>
    have h1 := ih (fun i hi => h i (by omega))
    have h2 := h n (by omega)
    rw [sm_s, Nat.succ_mul]
    omega
def imp1 (n u : Nat) (pr a b g : Nat → Nat) (r i : Nat) (s : Nat × (Nat → Nat) × (Nat → Nat → Nat)) : Nat × (Nat → Nat) × (Nat → Nat → Nat) :=
  if tot n u pr a b g (plS s.2.2 r i (i + 1) s.2.1) < tot n u pr a b g s.2.1 then (s.1 + 1, plS s.2.2 r i (i + 1) s.2.1, bxS r i (i + 1) s.2.2) else s
def impR (n u : Nat) (pr a b g : Nat → Nat) (r : Nat) : Nat → Nat × (Nat → Nat) × (Nat → Nat → Nat) → Nat × (Nat → Nat) × (Nat → Nat → Nat)
  | 0, s => s
  | k + 1, s => imp1 n u pr a b g r k (impR n u pr a b g r k s)
def impA (n u : Nat) (pr a b g : Nat → Nat) : Nat → Nat × (Nat → Nat) × (Nat → Nat → Nat) → Nat × (Nat → Nat) × (Nat → Nat → Nat)
  | 0, s => s
  | r + 1, s => impR n u pr a b g r (sz n u a b g r - 1) (impA n u pr a b g r s)
section IMP
variable {n u : Nat} {pr a b g : Nat → Nat} {an : Nat → Nat → Bool} {fam : Nat → Int64} {pu fp sp ge lv od rs po fb sb bA : Nat → Int32} {pl pl' : Nat → Nat} {bx : Nat → Nat → Nat}
theorem ci_le (W : WF n u pr a b g) {r : Nat} : ci u a b g pl r ≤ 144 := by
  have hu := W.u12
  have := sm_bd (f := fun w => cnt (cpr a b g pl r w) w) (m := 12) (n := u) (fun i hi => by have := cnt_le (cpr a b g pl r i) i; omega)
  unfold ci
  omega
theorem cb_le (W : WF n u pr a b g) {r : Nat} : cb n pr a b g pl r ≤ 256 := by
  have hn := W.n16
  have := sm_bd (f := fun c => cnt (ivp n pr a b g pl r c) n) (m := 16) (n := n) (fun i hi => by have := cnt_le (ivp n pr a b g pl r i) n; omega)
  unfold cb
  omega
theorem ard_le (W : WF n u pr a b g) {r : Nat} : ard n u pr a b g pl r < 1000 := by
  have h1 := ci_le (pl := pl) W (r := r)
  have h2 := cb_le (pl := pl) W (r := r)
  have h3 := cb_le (pl := pl) W (r := r - 1)
  unfold ard
  split <;> omega
theorem tot_le (W : WF n u pr a b g) : tot n u pr a b g pl < 10000 := by
  have hR := rows16 W
  have := sm_bd (f := fun r => ci u a b g pl r + cb n pr a b g pl r) (m := 400) (n := rowsN g n) (fun r _ => by
    have h1 := ci_le (pl := pl) W (r := r)
    have h2 := cb_le (pl := pl) W (r := r)
    try dsimp only
    omega)
  unfold tot
  omega
theorem imp1_LAY {r i : Nat} {s : Nat × (Nat → Nat) × (Nat → Nat → Nat)} (L : LAY n u a b g s.2.1 s.2.2) (hi : i + 1 < sz n u a b g r) : LAY n u a b g (imp1 n u pr a b g r i s).2.1 (imp1 n u pr a b g r i s).2.2 := by
  unfold imp1
  split
  · exact L.swap (by omega) hi
  · exact L
theorem impR_LAY {r k : Nat} {s : Nat × (Nat → Nat) × (Nat → Nat → Nat)} (L : LAY n u a b g s.2.1 s.2.2) (hk : k ≤ sz n u a b g r - 1) : LAY n u a b g (impR n u pr a b g r k s).2.1 (impR n u pr a b g r k s).2.2 := by
  induction k with
  | zero => exact L
  | succ k ih => exact imp1_LAY (ih (by omega)) (by omega)
theorem impA_LAY {r : Nat} {s : Nat × (Nat → Nat) × (Nat → Nat → Nat)} (L : LAY n u a b g s.2.1 s.2.2) : LAY n u a b g (impA n u pr a b g r s).2.1 (impA n u pr a b g r s).2.2 := by
  induction r with
  | zero => exact L
  | succ r ih => exact impR_LAY ih (Nat.le_refl _)
theorem X7_impRow (W : WF n u pr a b g) (F : FX n u pr a b pu fp sp) (hl : ∀ w, w < u → lv w = nI (lw a b g w)) {s0 : Nat × (Nat → Nat) × (Nat → Nat → Nat)} (R : RX n u a b g s0.2.1 s0.2.2 od rs po fb sb) (L : LAY n u a b g s0.2.1 s0.2.2) {r : Nat} (hr : r < rowsN g n) :
    ∃ od' po', p7_swapWhereBetter_L24 lv pu (nI (rowsN g n)) (nI u) fb rs sb (nI r) FU (nI s0.1) (nI (ard n u pr a b g s0.2.1 r)) (nI 0) od po = some (nI (impR n u pr a b g r (sz n u a b g r - 1) s0).1, od', po') ∧
      RX n u a b g (impR n u pr a b g r (sz n u a b g r - 1) s0).2.1 (impR n u pr a b g r (sz n u a b g r - 1) s0).2.2 od' rs po' fb sb := by
  have hR := rows16 W
  have hsz := sz_le W (r := r)
  have hL := loop_all (fun k i (s : (Nat → Int32) × (Nat → Int32)) => p7_swapWhereBetter_L24 lv pu (nI (rowsN g n)) (nI u) fb rs sb (nI r) k (nI (impR n u pr a b g r i s0).1) (nI (ard n u pr a b g (impR n u pr a b g r i s0).2.1 r)) (nI i) s.1 s.2) (sz n u a b g r - 1)
    (fun i s => RX n u a b g (impR n u pr a b g r i s0).2.1 (impR n u pr a b g r i s0).2.2 s.1 rs s.2 fb sb)
    (fun (z : Int32 × (Nat → Int32) × (Nat → Int32)) => z.1 = nI (impR n u pr a b g r (sz n u a b g r - 1) s0).1 ∧ RX n u a b g (impR n u pr a b g r (sz n u a b g r - 1) s0).2.1 (impR n u pr a b g r (sz n u a b g r - 1) s0).2.2 z.2.1 rs z.2.2 fb sb) (by
      intro k s hs
      refine ⟨(nI (impR n u pr a b g r (sz n u a b g r - 1) s0).1, s.1, s.2), ?_, rfl, hs⟩
      try dsimp only
      rw [p7_swapWhereBetter_L24, p7_swapWhereBetter_L24_B, X7_boxCountOf W hs.1 hr, n1, nI_add, if_pos (nI_le (by omega) (by omega))]) (by
      intro k i s hi hs
      have hi1 : i + 1 < sz n u a b g r := by omega
      have Li := impR_LAY (pr := pr) L (r := r) (k := i) (by omega)
      have hstep : impR n u pr a b g r (i + 1) s0 = imp1 n u pr a b g r i (impR n u pr a b g r i s0) := rfl
      rw [hstep]
      generalize impR n u pr a b g r i s0 = Z at hs Li ⊢
      obtain ⟨od1, po1, e1, R1⟩ := X7_exchange W hs Li hr (i := i) (j := i + 1) (by omega) hi1
      have L1 := Li.swap (r := r) (i := i) (j := i + 1) (by omega) hi1
      have ht := tot_swap W (pr := pr) (pl := Z.2.1) (pl' := plS Z.2.2 r i (i + 1) Z.2.1) hr (fun x h1 h2 h3 => plS_row Li (by omega) hi1 h3)
      have k1 := ard_le (pl := Z.2.1) W (r := r)
      have k2 := ard_le (pl := plS Z.2.2 r i (i + 1) Z.2.1) W (r := r)
      by_cases hb : tot n u pr a b g (plS Z.2.2 r i (i + 1) Z.2.1) < tot n u pr a b g Z.2.1
      · have h1 : imp1 n u pr a b g r i Z = (Z.1 + 1, plS Z.2.2 r i (i + 1) Z.2.1, bxS r i (i + 1) Z.2.2) := if_pos hb
        rw [h1]
        refine ⟨(od1, po1), ?_, R1⟩
        try dsimp only
        rw [p7_swapWhereBetter_L24, p7_swapWhereBetter_L24_B, X7_boxCountOf W hs.1 hr, n1, nI_add, if_neg (nI_ge (by omega) (by omega)), e1]
        simp only [lb, uc2]
        rw [X7_around W F hl R1 L1 (by omega)]
        simp only [ob]
        rw [if_neg (nI_ge (by omega) (by omega)), nI_add]
      · have h1 : imp1 n u pr a b g r i Z = Z := if_neg hb
        rw [h1]
        obtain ⟨od2, po2, e2, R2⟩ := X7_exchange W R1 L1 hr (i := i) (j := i + 1) (by omega) hi1
        rw [bxS_back, plS_back (Li.2 r i (by omega)).2.2.2 (Li.2 r (i + 1) hi1).2.2.2] at R2
        refine ⟨(od2, po2), ?_, R2⟩
        try dsimp only
        rw [p7_swapWhereBetter_L24, p7_swapWhereBetter_L24_B, X7_boxCountOf W hs.1 hr, n1, nI_add, if_neg (nI_ge (by omega) (by omega)), e1]
        simp only [lb, uc2]
        rw [X7_around W F hl R1 L1 (by omega)]
        simp only [ob]
        rw [if_pos (nI_le (by omega) (by omega)), e2]) FU 0 (od, po) (Nat.zero_le _) (by show sz n u a b g r - 1 - 0 < 1024; omega) R
  obtain ⟨z, e1, e2, e3⟩ := hL
  refine ⟨z.2.1, z.2.2, ?_, e3⟩
  rw [← e2]
  exact e1
theorem X7_improve (W : WF n u pr a b g) (F : FX n u pr a b pu fp sp) (hl : ∀ w, w < u → lv w = nI (lw a b g w)) (R : RX n u a b g pl bx od rs po fb sb) (L : LAY n u a b g pl bx) :
    ∃ od' po', p7_swapWhereBetter (nI u) (nI (rowsN g n)) lv pu fb od po rs sb = some (nI (impA n u pr a b g (rowsN g n) (0, pl, bx)).1, od', po') ∧
      RX n u a b g (impA n u pr a b g (rowsN g n) (0, pl, bx)).2.1 (impA n u pr a b g (rowsN g n) (0, pl, bx)).2.2 od' rs po' fb sb := by
  have hR := rows16 W
  have hL := loop_all (fun k i (s : (Nat → Int32) × (Nat → Int32)) => p7_swapWhereBetter_L4 lv pu (nI (rowsN g n)) (nI u) fb rs sb k (nI (impA n u pr a b g i (0, pl, bx)).1) (nI i) s.1 s.2) (rowsN g n)
    (fun i s => RX n u a b g (impA n u pr a b g i (0, pl, bx)).2.1 (impA n u pr a b g i (0, pl, bx)).2.2 s.1 rs s.2 fb sb)
    (fun (z : Int32 × (Nat → Int32) × (Nat → Int32)) => z.1 = nI (impA n u pr a b g (rowsN g n) (0, pl, bx)).1 ∧ RX n u a b g (impA n u pr a b g (rowsN g n) (0, pl, bx)).2.1 (impA n u pr a b g (rowsN g n) (0, pl, bx)).2.2 z.2.1 rs z.2.2 fb sb) (by
      intro k s hs
      refine ⟨(nI (impA n u pr a b g (rowsN g n) (0, pl, bx)).1, s.1, s.2), ?_, rfl, hs⟩
      try dsimp only
      rw [p7_swapWhereBetter_L4, p7_swapWhereBetter_L4_B, if_pos (nI_le (Nat.le_refl _) (by omega))]) (by
      intro k i s hi hs
      have Li := impA_LAY (n := n) (u := u) (pr := pr) (a := a) (b := b) (g := g) (s := (0, pl, bx)) L (r := i)
      have hstep : impA n u pr a b g (i + 1) (0, pl, bx) = impR n u pr a b g i (sz n u a b g i - 1) (impA n u pr a b g i (0, pl, bx)) := rfl
      rw [hstep]
      generalize impA n u pr a b g i (0, pl, bx) = Z at hs Li ⊢
      obtain ⟨od1, po1, e1, R1⟩ := X7_impRow W F hl hs Li hi
      refine ⟨(od1, po1), ?_, R1⟩
      try dsimp only
      rw [p7_swapWhereBetter_L4, p7_swapWhereBetter_L4_B, if_neg (nI_ge hi (by omega)), X7_around W F hl hs Li (by omega)]
      simp only [ob]
      rw [n0, e1]
      simp only [uc3, p7_swapWhereBetter_J86, lb]
      rw [n1, nI_add]) FU 0 (od, po) (Nat.zero_le _) (by show rowsN g n - 0 < 1024; omega) R
  obtain ⟨z, e1, e2, e3⟩ := hL
  refine ⟨z.2.1, z.2.2, ?_, e3⟩
  have e1' : p7_swapWhereBetter_L4 lv pu (nI (rowsN g n)) (nI u) fb rs sb FU (nI 0) (nI 0) od po = some z := e1
  unfold p7_swapWhereBetter
  rw [n0, e1']
  simp only [ob, uc3, p7_swapWhereBetter_J92]
  rw [← e2]
/-- the reference's state of the places -/
def MPS (n u : Nat) (pr a b g : Nat → Nat) (pl : Nat → Nat) (bx : Nat → Nat → Nat) (fam0 : Nat → Int64) (bA : Nat → Int32) (fam : Nat → Int64) : Prop :=
  BA n u a b g bx bA ∧ PLM n u a b g pl fam ∧ MX n u pr a b fam ∧ ∀ k, k < 102 → fam k = fam0 k
end IMP
