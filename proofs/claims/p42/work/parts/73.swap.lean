/-! two boxes of a row change places -/
def plS (bx : Nat → Nat → Nat) (r i j : Nat) (pl : Nat → Nat) : Nat → Nat := fun z => if z = bx r i then j else if z = bx r j then i else pl z
def bxS (r i j : Nat) (bx : Nat → Nat → Nat) : Nat → Nat → Nat := fun r' k => if r' = r then (if k = j then bx r i else if k = i then bx r j else bx r k) else bx r' k
theorem bxS_i {r i j : Nat} {bx : Nat → Nat → Nat} : bxS r i j bx r i = bx r j := by
  unfold bxS
  rw [if_pos rfl]
  by_cases e : i = j
  · rw [if_pos e, e]
  · rw [if_neg e, if_pos rfl]
theorem bxS_j {r i j : Nat} {bx : Nat → Nat → Nat} : bxS r i j bx r j = bx r i := by
  unfold bxS
  rw [if_pos rfl, if_pos rfl]
theorem plS_back {r i j : Nat} {bx : Nat → Nat → Nat} {pl : Nat → Nat} (hi : pl (bx r i) = i) (hj : pl (bx r j) = j) : plS (bxS r i j bx) r i j (plS bx r i j pl) = pl := by
  funext z
  have h : plS (bxS r i j bx) r i j (plS bx r i j pl) z = if z = bx r j then j else if z = bx r i then i else plS bx r i j pl z := by
    conv => lhs; unfold plS
    rw [bxS_i, bxS_j]
    rfl
  rw [h]
  by_cases e1 : z = bx r j
  · rw [if_pos e1, e1, hj]
  · rw [if_neg e1]
    by_cases e2 : z = bx r i
    · rw [if_pos e2, e2, hi]
    · rw [if_neg e2]
      unfold plS
      rw [if_neg e2, if_neg e1]
theorem bxS_back {r i j : Nat} {bx : Nat → Nat → Nat} : bxS r i j (bxS r i j bx) = bx := by
  funext r' k
  have h : bxS r i j (bxS r i j bx) r' k = if r' = r then (if k = j then bx r j else if k = i then bx r i else bxS r i j bx r k) else bxS r i j bx r' k := by
    show (if r' = r then (if k = j then bxS r i j bx r i else if k = i then bxS r i j bx r j else bxS r i j bx r k) else bxS r i j bx r' k) = _
    rw [bxS_i, bxS_j]
  rw [h]
  by_cases er : r' = r
  · rw [if_pos er, er]
    by_cases e1 : k = j
    · rw [if_pos e1, e1]
    · rw [if_neg e1]
      by_cases e2 : k = i
      · rw [if_pos e2, e2]
      · rw [if_neg e2]
        unfold bxS
        rw [if_pos rfl, if_neg e1, if_neg e2]
  · rw [if_neg er]
    unfold bxS
    rw [if_neg er]
section SWAP
variable {n u : Nat} {pr a b g : Nat → Nat} {an : Nat → Nat → Bool} {fam : Nat → Int64} {pu fp sp ge lv od rs po fb sb bA : Nat → Int32} {pl pl' : Nat → Nat} {bx : Nat → Nat → Nat}
theorem LAY.swap (L : LAY n u a b g pl bx) {r i j : Nat} (hi : i < sz n u a b g r) (hj : j < sz n u a b g r) : LAY n u a b g (plS bx r i j pl) (bxS r i j bx) := by
  obtain ⟨q1, q2, q3, q4⟩ := L.2 r i hi
  obtain ⟨v1, v2, v3, v4⟩ := L.2 r j hj
  refine ⟨fun x hx ht => ?_, fun r' k hk => ?_⟩
  · obtain ⟨l1, l2⟩ := L.1 x hx ht
    by_cases e1 : x = bx r i
    · have h1 : plS bx r i j pl x = j := if_pos e1
      have h2 : rb a b g x = r := by rw [e1, q3]
      rw [h1, h2, bxS_j]
      exact ⟨hj, e1.symm⟩
    · by_cases e2 : x = bx r j
      · have h1 : plS bx r i j pl x = i := (if_neg e1).trans (if_pos e2)
        have h2 : rb a b g x = r := by rw [e2, v3]
        rw [h1, h2, bxS_i]
        exact ⟨hi, e2.symm⟩
      · have h1 : plS bx r i j pl x = pl x := (if_neg e1).trans (if_neg e2)
        rw [h1]
        refine ⟨l1, ?_⟩
        unfold bxS
        by_cases er : rb a b g x = r
        · rw [if_pos er]
          rw [er] at l2
          rw [if_neg (fun q => e2 (l2.symm.trans (by rw [q]))), if_neg (fun q => e1 (l2.symm.trans (by rw [q]))), l2]
        · rw [if_neg er, l2]
  · by_cases er : r' = r
    · rw [er] at hk ⊢
      by_cases ej : k = j
      · rw [ej, bxS_j]
        exact ⟨q1, q2, q3, if_pos rfl⟩
      · by_cases ei : k = i
        · rw [ei, bxS_i]
          have hne : ¬ bx r j = bx r i := fun q => by rw [q, q4] at v4; omega
          exact ⟨v1, v2, v3, (if_neg hne).trans (if_pos rfl)⟩
        · have h1 : bxS r i j bx r k = bx r k := by
            unfold bxS
            rw [if_pos rfl, if_neg ej, if_neg ei]
          obtain ⟨k1, k2, k3, k4⟩ := L.2 r k hk
          have hn1 : ¬ bx r k = bx r i := fun q => by rw [q, q4] at k4; omega
          have hn2 : ¬ bx r k = bx r j := fun q => by rw [q, v4] at k4; omega
          rw [h1]
          exact ⟨k1, k2, k3, ((if_neg hn1).trans (if_neg hn2)).trans k4⟩
    · have h1 : bxS r i j bx r' k = bx r' k := if_neg er
      obtain ⟨k1, k2, k3, k4⟩ := L.2 r' k hk
      have hn1 : ¬ bx r' k = bx r i := fun q => by rw [q, q3] at k3; exact er k3.symm
      have hn2 : ¬ bx r' k = bx r j := fun q => by rw [q, v3] at k3; exact er k3.symm
      rw [h1]
      exact ⟨k1, k2, k3, ((if_neg hn1).trans (if_neg hn2)).trans k4⟩
theorem place_inj {r r' i k : Nat} (hi : i < sz n u a b g r) (hk : k < sz n u a b g r') (h : st n u a b g r' + k = st n u a b g r + i) : r' = r ∧ k = i := by
  rcases Nat.lt_trichotomy r' r with e | e | e
  · have : st n u a b g (r' + 1) ≤ st n u a b g r := sm_mono e
    rw [st_s] at this
    omega
  · subst e; exact ⟨rfl, by omega⟩
  · have : st n u a b g (r + 1) ≤ st n u a b g r' := sm_mono e
    rw [st_s] at this
    omega
theorem X7_exchange (W : WF n u pr a b g) (R : RX n u a b g pl bx od rs po fb sb) (L : LAY n u a b g pl bx) {r i j : Nat} (hr : r < rowsN g n) (hi : i < sz n u a b g r) (hj : j < sz n u a b g r) :
    ∃ od' po', p7_exchange od po rs (nI r) (nI i) (nI j) = (od', po') ∧ RX n u a b g (plS bx r i j pl) (bxS r i j bx) od' rs po' fb sb := by
  obtain ⟨R1, R2, R3, R4⟩ := R
  have hR := rows16 W
  obtain ⟨q1, q2, q3, q4⟩ := L.2 r i hi
  obtain ⟨v1, v2, v3, v4⟩ := L.2 r j hj
  have p1 := place_lt W hr hi
  have p2 := place_lt W hr hj
  refine ⟨upd (upd od (st n u a b g r + i) (nI (bx r j))) (st n u a b g r + j) (nI (bx r i)), upd (upd po (bx r j) (nI i)) (bx r i) (nI j), ?_, R1, ?_, ?_, R4⟩
  · unfold p7_exchange
    rw [X7_boxAt W R1 R2 hr hi, X7_boxAt W R1 R2 hr hj]
    simp only [lb]
    rw [at_in (by omega) (by omega), R1 r (by omega), nI_add, nI_add, put_in p1 (by omega), put_in p2 (by omega), put_in v1 (by omega), put_in q1 (by omega)]
  · intro r' k hr' hk
    by_cases e1 : r' = r ∧ k = j
    · rw [e1.1, e1.2, upd_eq, bxS_j]
    · rw [upd_ne (fun q => e1 (place_inj hj hk q))]
      by_cases e2 : r' = r ∧ k = i
      · rw [e2.1, e2.2, upd_eq, bxS_i]
      · rw [upd_ne (fun q => e2 (place_inj hi hk q)), R2 r' k hr' hk]
        unfold bxS
        by_cases er : r' = r
        · rw [if_pos er, if_neg (fun q => e1 ⟨er, q⟩), if_neg (fun q => e2 ⟨er, q⟩), er]
        · rw [if_neg er]
  · intro x hx ht
    unfold plS
    by_cases e1 : x = bx r i
    · rw [if_pos e1, e1, upd_eq]
    · rw [if_neg e1, upd_ne e1]
      by_cases e2 : x = bx r j
      · rw [if_pos e2, e2, upd_eq]
      · rw [if_neg e2, upd_ne e2, R3 x hx ht]
theorem ci_congr (W : WF n u pr a b g) {r : Nat} (h : ∀ x, x < 28 → th n u a b g x = true → rb a b g x = r → pl' x = pl x) : ci u a b g pl' r = ci u a b g pl r := by
  unfold ci
  refine sm_congr fun w hw => cnt_congr fun v hv => ?_
  unfold cpr
  by_cases e1 : lw a b g w = r
  · by_cases e2 : lw a b g v = r
    · have hv' : v < u := by omega
      obtain ⟨a1, a2, a3⟩ := bxa_ok W hw
      obtain ⟨b1, b2, b3⟩ := bxb_ok W hw
      obtain ⟨c1, c2, c3⟩ := bxa_ok W hv'
      obtain ⟨d1, d2, d3⟩ := bxb_ok W hv'
      unfold crs pa pb
      rw [h _ a1 a2 (a3.trans e1), h _ b1 b2 (b3.trans e1), h _ c1 c2 (c3.trans e2), h _ d1 d2 (d3.trans e2)]
    · rw [decide_eq_false e2]; simp
  · rw [decide_eq_false e1]; simp
theorem mid_congr (W : WF n u pr a b g) {w : Nat} (hw : w < u) (h : ∀ x, x < 28 → th n u a b g x = true → rb a b g x = lw a b g w → pl' x = pl x) : mid a b g pl' w = mid a b g pl w := by
  obtain ⟨a1, a2, a3⟩ := bxa_ok W hw
  obtain ⟨b1, b2, b3⟩ := bxb_ok W hw
  unfold mid pa pb
  rw [h _ a1 a2 a3, h _ b1 b2 b3]
theorem cb_congr (W : WF n u pr a b g) {r : Nat} (h : ∀ x, x < 28 → th n u a b g x = true → rb a b g x = r ∨ rb a b g x = r + 1 → pl' x = pl x) : cb n pr a b g pl' r = cb n pr a b g pl r := by
  have hn := W.n16
  unfold cb
  refine sm_congr fun c hc => cnt_congr fun d hd => ?_
  unfold ivp
  by_cases e1 : g c = r + 1
  · by_cases e2 : g d = r + 1
    · have hw1 := W.child hc e1
      have hw2 := W.child hd e2
      have hu := W.u12
      have l1 := (W.lvl hc (by omega)).mp e1
      have l2 := (W.lvl hd (by omega)).mp e2
      rw [mid_congr W hw1 (pl := pl) (fun x h1 h2 h3 => h x h1 h2 (Or.inl (h3.trans l1))), mid_congr W hw2 (pl := pl) (fun x h1 h2 h3 => h x h1 h2 (Or.inl (h3.trans l2))),
        h c (by omega) (by rw [th_p (by omega)]; exact decide_eq_true hc) (Or.inr (by rw [rb_p (by omega)]; exact e1)),
        h d (by omega) (by rw [th_p (by omega)]; exact decide_eq_true hd) (Or.inr (by rw [rb_p (by omega)]; exact e2))]
    · rw [decide_eq_false e2]; simp
  · rw [decide_eq_false e1]; simp
theorem sm_pt {f f' : Nat → Nat} {r R : Nat} (hr : r < R) (h : ∀ k, k < R → k ≠ r → f' k = f k) : sm f' R + f r = sm f R + f' r := by
  induction R with
  | zero => exact absurd hr (Nat.not_lt_zero _)
  | succ R ih =>
    rw [sm_s, sm_s]
    by_cases e : r = R
    · rw [e, sm_congr (g := f) (fun k hk => h k (by omega) (by omega))]
      omega
    · have h1 := ih (by omega) (fun k hk => h k (by omega))
      have h2 := h R (by omega) (by omega)
      omega
def tot (n u : Nat) (pr a b g pl : Nat → Nat) : Nat := sm (fun r => ci u a b g pl r + cb n pr a b g pl r) (rowsN g n)
def ard (n u : Nat) (pr a b g pl : Nat → Nat) (r : Nat) : Nat := (if r = 0 then 0 else cb n pr a b g pl (r - 1)) + ci u a b g pl r + cb n pr a b g pl r
theorem tot_swap (W : WF n u pr a b g) {r : Nat} (hr : r < rowsN g n) (h : ∀ x, x < 28 → th n u a b g x = true → rb a b g x ≠ r → pl' x = pl x) :
    tot n u pr a b g pl' + ard n u pr a b g pl r = tot n u pr a b g pl + ard n u pr a b g pl' r := by
  have hci : ∀ k, k ≠ r → ci u a b g pl' k = ci u a b g pl k := fun k hk => ci_congr W fun x h1 h2 h3 => h x h1 h2 (by omega)
  have hcb : ∀ k, k ≠ r → k + 1 ≠ r → cb n pr a b g pl' k = cb n pr a b g pl k := fun k hk hk2 => cb_congr W fun x h1 h2 h3 => h x h1 h2 (by omega)
  have t1 := sm_pt (f := fun k => ci u a b g pl k + cb n pr a b g pl k) (f' := fun k => if k = r then ci u a b g pl' k + cb n pr a b g pl' k else ci u a b g pl k + cb n pr a b g pl k) hr (fun k _ hk => if_neg hk)
  simp only [if_pos] at t1
  unfold tot ard
  by_cases e : r = 0
  · have t2 : sm (fun k => if k = r then ci u a b g pl' k + cb n pr a b g pl' k else ci u a b g pl k + cb n pr a b g pl k) (rowsN g n) = sm (fun k => ci u a b g pl' k + cb n pr a b g pl' k) (rowsN g n) := sm_congr fun k _ => by
      by_cases ek : k = r
      · rw [if_pos ek]
      · rw [if_neg ek, hci k ek, hcb k ek (by omega)]
    rw [if_pos e, if_pos e]
    omega
  · have t2 := sm_pt (f := fun k => if k = r then ci u a b g pl' k + cb n pr a b g pl' k else ci u a b g pl k + cb n pr a b g pl k) (f' := fun k => ci u a b g pl' k + cb n pr a b g pl' k) (r := r - 1) (R := rowsN g n) (by omega) (fun k _ hk => by
      by_cases ek : k = r
      · rw [if_pos ek]
      · rw [if_neg ek, hci k ek, hcb k ek (by omega)])
    simp only [if_neg (show ¬ r - 1 = r by omega)] at t2
    have t3 := hci (r - 1) (by omega)
    rw [if_neg e, if_neg e]
    omega
theorem plS_row (L : LAY n u a b g pl bx) {r i j x : Nat} (hi : i < sz n u a b g r) (hj : j < sz n u a b g r) (h : rb a b g x ≠ r) : plS bx r i j pl x = pl x := by
  obtain ⟨q1, q2, q3, q4⟩ := L.2 r i hi
  obtain ⟨v1, v2, v3, v4⟩ := L.2 r j hj
  exact (if_neg (fun q => h (by rw [q, q3]))).trans (if_neg (fun q => h (by rw [q, v3])))
/-- all crossings, on both sides -/
theorem X7_all (W : WF n u pr a b g) (F : FX n u pr a b pu fp sp) (hl : ∀ w, w < u → lv w = nI (lw a b g w)) (R : RX n u a b g pl bx od rs po fb sb) (L : LAY n u a b g pl bx) :
    p7_countAllCrossings (nI u) (nI (rowsN g n)) lv pu fb od po rs sb = some (nI (tot n u pr a b g pl)) := by
  have hR := rows16 W
  unfold p7_countAllCrossings
  have hL := loop_all (fun k i (s : Nat) => p7_countAllCrossings_L4 lv pu (nI (rowsN g n)) (nI u) fb od po rs sb k (nI s) (nI i)) (rowsN g n)
    (fun i s => s = sm (fun r => ci u a b g pl r + cb n pr a b g pl r) i) (fun s => s = nI (tot n u pr a b g pl)) (by
      intro k s hs
      refine ⟨nI s, ?_, by rw [hs]; rfl⟩
      try dsimp only
      rw [p7_countAllCrossings_L4, p7_countAllCrossings_L4_B, if_pos (nI_le (Nat.le_refl _) (by omega))]) (by
      intro k i s hi hs
      refine ⟨sm (fun r => ci u a b g pl r + cb n pr a b g pl r) (i + 1), ?_, rfl⟩
      try dsimp only
      rw [p7_countAllCrossings_L4, p7_countAllCrossings_L4_B, if_neg (nI_ge hi (by omega)), X7_countIn W hl R.2.2.1 R.2.2.2 L (by omega), X7_countBelow W F R L (by omega)]
      simp only [ob, lb]
      rw [n1, nI_add, nI_add, nI_add, sm_s, hs]) FU 0 0 (Nat.zero_le _) (by show rowsN g n - 0 < 1024; omega) rfl
  obtain ⟨s, e1, f1⟩ := hL
  try dsimp only at e1
  rw [n0, e1]
  simp only [ob, p7_countAllCrossings_J35]
  rw [f1]
theorem X7_around (W : WF n u pr a b g) (F : FX n u pr a b pu fp sp) (hl : ∀ w, w < u → lv w = nI (lw a b g w)) (R : RX n u a b g pl bx od rs po fb sb) (L : LAY n u a b g pl bx) {r : Nat} (hr : r < 100) :
    p7_countCrossingsAround (nI u) (nI (rowsN g n)) lv pu fb od po rs sb (nI r) = some (nI (ard n u pr a b g pl r)) := by
  unfold p7_countCrossingsAround
  have h1 : p7_countCrossingsBelow (nI (rowsN g n)) pu fb od po rs sb (nI r - 1) = some (nI (if r = 0 then 0 else cb n pr a b g pl (r - 1))) := by
    by_cases e : r = 0
    · rw [if_pos e, e, show nI 0 - 1 = (-1 : Int32) by decide]
      unfold p7_countCrossingsBelow
      rw [if_pos (by decide)]
      rfl
    · rw [if_neg e, n1, nI_sub (by omega), X7_countBelow W F R L (by omega)]
  rw [h1, X7_countIn W hl R.2.2.1 R.2.2.2 L hr, X7_countBelow W F R L hr]
  simp only [ob]
  rw [nI_add, nI_add]
  rfl
end SWAP
