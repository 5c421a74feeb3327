/-! the columns on both sides -/
def LCX (n : Nat) (lc : Nat → Nat) (lA : Nat → Int32) : Prop := ∀ p, p < n → lA p = nI (lc p)
def LCM (n : Nat) (lc : Nat → Nat) (fam : Nat → Int64) : Prop := ∀ p, p < n → fam (2 + 4 * p + 3) = lN (lc p)
def CX (n u : Nat) (a b g lc pl : Nat → Nat) (r k : Nat) (col : Nat → Nat) (fc mc : Nat → Int32) : Prop := ∀ x, dn n u a b g pl r k x → fc x = nI (col x) ∧ mc x = nI (mdc a b g lc col x)
def CM (n u : Nat) (a b g pl : Nat → Nat) (r k : Nat) (col : Nat → Nat) (cA : Nat → Int32) : Prop := ∀ x, dn n u a b g pl r k x → cA x = nI (col x)
section XCOL
variable {n u : Nat} {pr a b g lc col : Nat → Nat} {an : Nat → Nat → Bool} {fam : Nat → Int64} {pu fp sp ge am lv rf od rs po fb sb bA lA fc mc cA : Nat → Int32} {pl : Nat → Nat} {bx : Nat → Nat → Nat}
theorem dn_s (L : LAY n u a b g pl bx) {r k x : Nat} (hx : dn n u a b g pl r (k + 1) x) (e : x ≠ bx r k) : dn n u a b g pl r k x := by
  refine ⟨hx.1, hx.2.1, ?_⟩
  rcases hx.2.2 with h | ⟨h1, h2⟩
  · exact Or.inl h
  · refine Or.inr ⟨h1, ?_⟩
    by_cases e2 : pl x = k
    · have := (L.1 x hx.1 hx.2.1).2
      rw [h1, e2] at this
      exact absurd this.symm e
    · omega
theorem dn_n (L : LAY n u a b g pl bx) {r k x : Nat} (hx : dn n u a b g pl (r + 1) k x) (h0 : k = 0) : dn n u a b g pl r (sz n u a b g r) x := by
  refine ⟨hx.1, hx.2.1, ?_⟩
  rcases hx.2.2 with h | ⟨h1, h2⟩
  · by_cases e : rb a b g x = r
    · exact Or.inr ⟨e, by have := (L.1 x hx.1 hx.2.1).1; rw [e] at this; exact this⟩
    · exact Or.inl (by omega)
  · omega
theorem X7_personOf (W : WF n u pr a b g) (Q : ∀ w, w < u → rf w = rN (rw_ a b g w)) {x : Nat} (hx : x < 28) (ht : th n u a b g x = true) : p7_personOf rf (nI x) = nI (pp a b g x) := by
  have hu := W.u12
  unfold p7_personOf p9_unionOfReference pp
  by_cases h : x < 16
  · rw [n16, if_neg (nI_ge h (by omega)), if_pos h]
  · have hxe : x = 16 + (x - 16) := by omega
    have ht2 := ht
    rw [hxe, th_u] at ht2
    simp only [Bool.and_eq_true, decide_eq_true_eq] at ht2
    rw [n16, if_pos (nI_le (by omega) (by omega)), if_pos (nI_le (by omega) (by omega)), nI_sub (by omega), at_in (by omega) (by omega), Q _ ht2.1, rN_in ht2.2, if_neg h]
theorem X0_widthOf (W : WF n u pr a b g) (Q : ∀ w, w < u → rf w = rN (rw_ a b g w)) (C : LCX n lc lA) {x : Nat} (hx : x < 28) (ht : th n u a b g x = true) : p0_widthOf lA rf (nI x) = nI (wd a b g lc x) := by
  have hn := W.n16
  have hp := pp_lt W ht
  unfold p0_widthOf
  rw [X7_personOf W Q hx ht, at_in (by omega) (by omega), C _ hp, n2, nI_add]
  rfl
theorem ucl_lt (W : WF n u pr a b g) (hlc : ∀ p, p < n → lc p ≤ 8) (L : LAY n u a b g pl bx) {r k : Nat} {s : Nat × (Nat → Nat)} (B : CB n u a b g lc pl r k s) {w : Nat} (d1 : dn n u a b g pl r k (bxa a b g w)) (d2 : dn n u a b g pl r k (bxb a b g w)) (hr : r ≤ rowsN g n) :
    mdc a b g lc s.2 (bxa a b g w) ≤ 400 ∧ mdc a b g lc s.2 (bxb a b g w) ≤ 400 := by
  have h1 := B.2 _ d1
  have h2 := B.2 _ d2
  have h3 := place_lt W (th_row W d1.2.1) (L.1 _ d1.1 d1.2.1).1
  have h4 := place_lt W (th_row W d2.2.1) (L.1 _ d2.1 d2.2.1).1
  unfold mdc
  omega
theorem X0_union (W : WF n u pr a b g) (hlc : ∀ p, p < n → lc p ≤ 8) (L : LAY n u a b g pl bx) {r k : Nat} {s : Nat × (Nat → Nat)} (B : CB n u a b g lc pl r k s) (X : CX n u a b g lc pl r k s.2 fc mc) (FB : FBX u a b g fb sb) {w : Nat} (hw : w < u) (d1 : dn n u a b g pl r k (bxa a b g w)) (d2 : dn n u a b g pl r k (bxb a b g w)) (hr : r ≤ rowsN g n) :
    p0_middleOfUnion mc fb sb (nI w) = nI (ucl a b g lc s.2 w) := by
  have hu := W.u12
  obtain ⟨m1, m2⟩ := ucl_lt W hlc L B d1 d2 hr
  unfold p0_middleOfUnion
  rw [at_in (f := fb) (by omega) (by omega), at_in (f := sb) (by omega) (by omega), (FB w hw).1, (FB w hw).2, at_in d1.1 (by omega), at_in d2.1 (by omega), (X _ d1).2, (X _ d2).2]
  simp only [lb]
  rw [nI_add, n2, nI_div (by omega) (by omega)]
  rfl
theorem X0_wanted (W : WF n u pr a b g) (F : FX n u pr a b pu fp sp) (Q : ∀ w, w < u → rf w = rN (rw_ a b g w)) (C : LCX n lc lA) (hlc : ∀ p, p < n → lc p ≤ 8) (L : LAY n u a b g pl bx) {r k : Nat} {s : Nat × (Nat → Nat)} (B : CB n u a b g lc pl r k s) (X : CX n u a b g lc pl r k s.2 fc mc) (FB : FBX u a b g fb sb) {x : Nat} (hx : x < 28) (ht : th n u a b g x = true) (hxr : rb a b g x = r) (hs : s.1 < 1000) :
    imax (nI s.1) (p0_wantedColumn mc lA pu rf fb sb (nI x)) = nI (max s.1 (wnt pr a b g lc s.2 x)) := by
  have hn := W.n16
  have hr := th_row W ht
  have hd := wd_le W hlc ht
  unfold p0_wantedColumn wnt
  by_cases h : x < 16
  · have hp : x < n := by rw [th_p h] at ht; exact of_decide_eq_true ht
    have hg : g x = r := by rw [rb_p h] at hxr; exact hxr
    rw [n16, if_neg (nI_ge h (by omega)), X1_hasParents W F hp, if_pos h]
    by_cases h12 : pr x < 12
    · obtain ⟨d1, d2, d3, d4⟩ := dn_par (pl := pl) (k := k) W hp h12 hg
      obtain ⟨m1, m2⟩ := ucl_lt W hlc L B d1 d2 (by omega)
      have hul : ucl a b g lc s.2 (pr x) ≤ 400 := by unfold ucl; omega
      rw [decide_eq_true h12, cond_true, if_pos h12, F.at_pu hn hp, oN_in h12, X0_union W hlc L B X FB (W.pr12 hp h12) d1 d2 (by omega), X0_widthOf W Q C hx ht, n2, nI_div (by omega) (by omega), imax_sub (by omega) (by omega) (by omega)]
    · rw [decide_eq_false h12, cond_false, if_neg h12, n0, imax_nI (by omega) (by omega)]
  · rw [n16, if_pos (nI_le (by omega) (by omega)), if_neg h, n0, imax_nI (by omega) (by omega)]
theorem X0_row (W : WF n u pr a b g) (F : FX n u pr a b pu fp sp) (Q : ∀ w, w < u → rf w = rN (rw_ a b g w)) (C : LCX n lc lA) (hlc : ∀ p, p < n → lc p ≤ 8) (R : RX n u a b g pl bx od rs po fb sb) (L : LAY n u a b g pl bx) {r : Nat} (hr : r < rowsN g n) {s0 : Nat × (Nat → Nat)} (h0 : s0.1 = 0) (B : CB n u a b g lc pl r 0 s0) (X : CX n u a b g lc pl r 0 s0.2 fc mc) :
    ∃ fc' mc', p0_layOut_L17 lA pu rf fb od rs sb (nI r) FU (nI 0) (nI 0) fc mc = some (fc', mc') ∧ CX n u a b g lc pl r (sz n u a b g r) (crow pr a b g lc bx r (sz n u a b g r) s0).2 fc' mc' := by
  have hsz := sz_le W (r := r)
  have hL := loop_all (fun k i (z : (Nat → Int32) × (Nat → Int32)) => p0_layOut_L17 lA pu rf fb od rs sb (nI r) k (nI (crow pr a b g lc bx r i s0).1) (nI i) z.1 z.2) (sz n u a b g r)
    (fun i z => CX n u a b g lc pl r i (crow pr a b g lc bx r i s0).2 z.1 z.2) (fun z => CX n u a b g lc pl r (sz n u a b g r) (crow pr a b g lc bx r (sz n u a b g r) s0).2 z.1 z.2) (by
      intro k z hz
      refine ⟨z, ?_, hz⟩
      try dsimp only
      rw [p0_layOut_L17, p0_layOut_L17_B, X7_boxCountOf W R.1 hr, if_pos (nI_le (Nat.le_refl _) (by omega))]) (by
      intro k i z hi hz
      obtain ⟨q1, q2, q3, q4⟩ := L.2 r i hi
      have Bi := crow_CB W hlc L B (k := i) (by omega)
      have hpl := place_lt W hr hi
      have hd := wd_le W hlc q2
      have hstep : crow pr a b g lc bx r (i + 1) s0 = cst pr a b g lc (bx r i) (crow pr a b g lc bx r i s0) := rfl
      rw [hstep]
      generalize crow pr a b g lc bx r i s0 = Z at hz Bi ⊢
      have hZ := Bi.1
      have hw := wnt_le W hlc L Bi q2 q3
      refine ⟨(upd z.1 (bx r i) (nI (max Z.1 (wnt pr a b g lc Z.2 (bx r i)))), upd z.2 (bx r i) (nI (max Z.1 (wnt pr a b g lc Z.2 (bx r i)) + wd a b g lc (bx r i) / 2))), ?_, fun x hx => ?_⟩
      · try dsimp only
        rw [p0_layOut_L17, p0_layOut_L17_B, X7_boxCountOf W R.1 hr, if_neg (nI_ge hi (by omega)), X7_boxAt W R.1 R.2.1 hr hi]
        simp only [lb]
        rw [X0_wanted W F Q C hlc L Bi hz R.2.2.2 q1 q2 q3 (by omega), X0_widthOf W Q C q1 q2, n2, n1, nI_div (by omega) (by omega), nI_add, nI_add, nI_add, nI_add, put_in q1 (by omega), put_in q1 (by omega)]
        rfl
      · unfold cst
        dsimp only
        by_cases e : x = bx r i
        · rw [e, upd_eq, upd_eq, updN_eq]
          refine ⟨rfl, ?_⟩
          unfold mdc
          rw [updN_eq]
        · have := hz x (dn_s L hx e)
          rw [upd_ne e, upd_ne e, updN_ne e]
          refine ⟨this.1, ?_⟩
          unfold mdc at this ⊢
          rw [updN_ne e]
          exact this.2) FU 0 (fc, mc) (Nat.zero_le _) (by show sz n u a b g r - 0 < 1024; omega) X
  obtain ⟨z, e1, e2⟩ := hL
  have e1' : p0_layOut_L17 lA pu rf fb od rs sb (nI r) FU (nI s0.1) (nI 0) fc mc = some z := e1
  rw [h0] at e1'
  exact ⟨z.1, z.2, e1', e2⟩
theorem X0_layOut (W : WF n u pr a b g) (F : FX n u pr a b pu fp sp) (Q : ∀ w, w < u → rf w = rN (rw_ a b g w)) (C : LCX n lc lA) (hlc : ∀ p, p < n → lc p ≤ 8) (R : RX n u a b g pl bx od rs po fb sb) (L : LAY n u a b g pl bx) :
    ∃ fc' mc', p0_layOut (nI (rowsN g n)) fc mc lA pu rf fb od rs sb = some (fc', mc') ∧ CX n u a b g lc pl (rowsN g n) 0 (call n u pr a b g lc bx (rowsN g n) (fun _ => 0)) fc' mc' := by
  have hR := rows16 W
  have hL := loop_all (fun k i (z : (Nat → Int32) × (Nat → Int32)) => p0_layOut_L2 lA pu rf (nI (rowsN g n)) fb od rs sb k (nI i) z.1 z.2) (rowsN g n)
    (fun i z => CX n u a b g lc pl i 0 (call n u pr a b g lc bx i (fun _ => 0)) z.1 z.2) (fun z => CX n u a b g lc pl (rowsN g n) 0 (call n u pr a b g lc bx (rowsN g n) (fun _ => 0)) z.1 z.2) (by
      intro k z hz
      refine ⟨z, ?_, hz⟩
      try dsimp only
      rw [p0_layOut_L2, p0_layOut_L2_B, if_pos (nI_le (Nat.le_refl _) (by omega))]) (by
      intro k i z hi hz
      have Bi := call_CB (r := i) (c := fun _ => 0) (pr := pr) W hlc L
      obtain ⟨fc1, mc1, e1, X1⟩ := X0_row W F Q C hlc R L hi (s0 := (0, call n u pr a b g lc bx i (fun _ => 0))) rfl Bi hz
      refine ⟨(fc1, mc1), ?_, fun x hx => X1 x (dn_n L hx rfl)⟩
      try dsimp only
      rw [p0_layOut_L2, p0_layOut_L2_B, if_neg (nI_ge hi (by omega)), n0, e1]
      simp only [ob, uc2, p0_layOut_J101, lb]
      rw [n1, nI_add]) FU 0 (fc, mc) (Nat.zero_le _) (by show rowsN g n - 0 < 1024; omega) (fun x hx => by
      rcases hx.2.2 with h | ⟨h1, h2⟩
      · exact absurd h (Nat.not_lt_zero _)
      · exact absurd h2 (Nat.not_lt_zero _))
  obtain ⟨z, e1, e2⟩ := hL
  try dsimp only at e1
  refine ⟨z.1, z.2, ?_, e2⟩
  unfold p0_layOut
  rw [n0, e1]
  rfl
end XCOL
