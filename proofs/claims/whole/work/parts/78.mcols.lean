section MCOL
variable {n u : Nat} {pr a b g lc col : Nat → Nat} {an : Nat → Nat → Bool} {fam : Nat → Int64} {ge lv ro rS bA cA : Nat → Int32} {it : Nat → Bool} {pl : Nat → Nat} {bx : Nat → Nat → Nat}
theorem M_personOf (W : WF n u pr a b g) (F : MX n u pr a b fam) (G : GL n u a b g ge lv) {x : Nat} (hx : x < 28) (ht : th n u a b g x = true) : p10_personOf fam ge lv (nI x) = some (nI (pp a b g x)) := by
  have hu := W.u12
  unfold p10_personOf pp
  by_cases h : x < 16
  · rw [n16, if_neg (nI_ge h (by omega)), if_pos h]
  · have hxe : x = 16 + (x - 16) := by omega
    have ht2 := ht
    rw [hxe, th_u] at ht2
    simp only [Bool.and_eq_true, decide_eq_true_eq] at ht2
    rw [n16, if_pos (nI_le (by omega) (by omega)), nI_sub (by omega), M_referred W F G ht2.1, if_neg h, rN_in ht2.2]
    rfl
theorem M_widthOf (W : WF n u pr a b g) (F : MX n u pr a b fam) (G : GL n u a b g ge lv) (C : LCM n lc fam) {x : Nat} (hx : x < 28) (ht : th n u a b g x = true) : p10_widthOf fam ge lv (nI x) = some (nI (wd a b g lc x)) := by
  have hn := W.n16
  have hp := pp_lt W ht
  unfold p10_widthOf
  rw [M_personOf W F G hx ht]
  simp only [ob]
  rw [n3, M_ofPerson (by omega) (by omega), C _ hp]
  simp only
  rw [lN_i, n2, nI_add]
  rfl
theorem M_midCol (W : WF n u pr a b g) (F : MX n u pr a b fam) (G : GL n u a b g ge lv) (C : LCM n lc fam) {r k x : Nat} (hlc : ∀ p, p < n → lc p ≤ 8) (X : CM n u a b g pl r k col cA) (d : dn n u a b g pl r k x) : p10_middleColumn cA fam ge lv (nI x) = some (nI (mdc a b g lc col x)) := by
  have hw := wd_le W hlc d.2.1
  unfold p10_middleColumn
  rw [gd_in d.1 (by omega), M_widthOf W F G C d.1 d.2.1]
  simp only [ob]
  rw [nI_clamp (by have := d.1; omega), X x d, n2, nI_div (by omega) (by omega), nI_add]
  rfl
theorem M_unionColumn (W : WF n u pr a b g) (F : MX n u pr a b fam) (G : GL n u a b g ge lv) (C : LCM n lc fam) (hlc : ∀ p, p < n → lc p ≤ 8) (L : LAY n u a b g pl bx) {r k : Nat} {s : Nat × (Nat → Nat)} (B : CB n u a b g lc pl r k s) (X : CM n u a b g pl r k s.2 cA) {w : Nat} (hw : w < u) (d1 : dn n u a b g pl r k (bxa a b g w)) (d2 : dn n u a b g pl r k (bxb a b g w)) (hr : r ≤ rowsN g n) :
    p10_unionColumn cA fam ge lv (nI w) = some (nI (ucl a b g lc s.2 w)) := by
  obtain ⟨m1, m2⟩ := ucl_lt W hlc L B d1 d2 hr
  unfold p10_unionColumn
  rw [M_pboxA W F G hw, M_pboxB W F G hw]
  simp only [ob]
  rw [M_midCol W F G C hlc X d1, M_midCol W F G C hlc X d2]
  simp only
  rw [nI_add, n2, nI_div (by omega) (by omega)]
  rfl
theorem M_wanted (W : WF n u pr a b g) (F : MX n u pr a b fam) (G : GL n u a b g ge lv) (C : LCM n lc fam) (hlc : ∀ p, p < n → lc p ≤ 8) (L : LAY n u a b g pl bx) {r k : Nat} {s : Nat × (Nat → Nat)} (B : CB n u a b g lc pl r k s) (X : CM n u a b g pl r k s.2 cA) {x : Nat} (hx : x < 28) (ht : th n u a b g x = true) (hxr : rb a b g x = r) (hs : s.1 < 1000) :
    ∃ v, p10_wanted cA fam ge lv (nI x) = some v ∧ imax (nI s.1) v = nI (max s.1 (wnt pr a b g lc s.2 x)) := by
  have hn := W.n16
  have hr := th_row W ht
  have hd := wd_le W hlc ht
  unfold p10_wanted wnt
  by_cases h : x < 16
  · have hp : x < n := by rw [th_p h] at ht; exact of_decide_eq_true ht
    have hg : g x = r := by rw [rb_p h] at hxr; exact hxr
    rw [n16, if_neg (nI_ge h (by omega)), M_parentsOf F hn hp, if_pos h]
    simp only [ob]
    unfold p10_wanted_J16
    by_cases h12 : pr x < 12
    · obtain ⟨d1, d2, d3, d4⟩ := dn_par (pl := pl) (k := k) W hp h12 hg
      obtain ⟨m1, m2⟩ := ucl_lt W hlc L B d1 d2 (by omega)
      have hul : ucl a b g lc s.2 (pr x) ≤ 400 := by unfold ucl; omega
      refine ⟨nI (ucl a b g lc s.2 (pr x)) - nI (wd a b g lc x / 2), ?_, ?_⟩
      · rw [if_neg (fun q => (oN_m1.mp q) h12), oN_in h12, M_unionColumn W F G C hlc L B X (W.pr12 hp h12) d1 d2 (by omega)]
        simp only [ob]
        rw [M_widthOf W F G C hx ht]
        simp only
        rw [n2, nI_div (by omega) (by omega)]
      · rw [if_pos h12, imax_sub (by omega) (by omega) (by omega)]
    · refine ⟨0, ?_, ?_⟩
      · rw [if_pos (oN_m1.mpr h12)]
      · rw [if_neg h12, n0, imax_nI (by omega) (by omega)]
  · refine ⟨0, ?_, ?_⟩
    · rw [n16, if_pos (nI_le (by omega) (by omega))]
      unfold p10_wanted_J16
      rw [if_pos rfl]
    · rw [if_neg h, n0, imax_nI (by omega) (by omega)]
theorem M_colRow (W : WF n u pr a b g) (F : MX n u pr a b fam) (G : GL n u a b g ge lv) (hS : ∀ r, r < 16 → rS r = nI (sz n u a b g r)) (BAx : BA n u a b g bx bA) (C : LCM n lc fam) (hlc : ∀ p, p < n → lc p ≤ 8) (L : LAY n u a b g pl bx) {r : Nat} (hr : r < rowsN g n) {s0 : Nat × (Nat → Nat)} (h0 : s0.1 = 0) (B : CB n u a b g lc pl r 0 s0) (X : CM n u a b g pl r 0 s0.2 cA) :
    ∃ cA', p10_layColumns_L18 bA fam ge lv rS (nI r) FU (nI 0) (nI 0) cA = some cA' ∧ CM n u a b g pl r (sz n u a b g r) (crow pr a b g lc bx r (sz n u a b g r) s0).2 cA' := by
  have hR := rows16 W
  have hsz := sz_le W (r := r)
  have hL := loop_all (fun k i (z : Nat → Int32) => p10_layColumns_L18 bA fam ge lv rS (nI r) k (nI (crow pr a b g lc bx r i s0).1) (nI i) z) (sz n u a b g r)
    (fun i z => CM n u a b g pl r i (crow pr a b g lc bx r i s0).2 z) (fun z => CM n u a b g pl r (sz n u a b g r) (crow pr a b g lc bx r (sz n u a b g r) s0).2 z) (by
      intro k z hz
      refine ⟨z, ?_, hz⟩
      try dsimp only
      rw [p10_layColumns_L18, p10_layColumns_L18_B, gd_in (by omega) (by omega), nI_clamp (by omega), hS r (by omega), if_pos (nI_le (Nat.le_refl _) (by omega))]) (by
      intro k i z hi hz
      obtain ⟨q1, q2, q3, q4⟩ := L.2 r i hi
      have Bi := crow_CB W hlc L B (k := i) (by omega)
      have hpl := place_lt W hr hi
      have hd := wd_le W hlc q2
      have hstep : crow pr a b g lc bx r (i + 1) s0 = cst pr a b g lc (bx r i) (crow pr a b g lc bx r i s0) := rfl
      rw [hstep]
      generalize crow pr a b g lc bx r i s0 = Z at hz Bi ⊢
      have hZ := Bi.1
      obtain ⟨v, hv1, hv2⟩ := M_wanted W F G C hlc L Bi hz q1 q2 q3 (by omega)
      refine ⟨upd z (bx r i) (nI (max Z.1 (wnt pr a b g lc Z.2 (bx r i)))), ?_, fun x hx => ?_⟩
      · try dsimp only
        rw [p10_layColumns_L18, p10_layColumns_L18_B, gd_in (by omega) (by omega), nI_clamp (by omega), hS r (by omega), if_neg (nI_ge hi (by omega)), M_boxIn BAx hR W hr hi]
        simp only [ob]
        rw [hv1]
        simp only
        rw [gd_in q1 (by omega), nI_clamp (by omega), hv2]
        simp only [lb]
        rw [gd_in q1 (by omega), M_widthOf W F G C q1 q2]
        simp only [ob]
        rw [upd_eq, n1, nI_add, nI_add, nI_add]
        rfl
      · unfold cst
        dsimp only
        by_cases e : x = bx r i
        · rw [e, upd_eq, updN_eq]
        · rw [upd_ne e, updN_ne e]
          exact hz x (dn_s L hx e)) FU 0 cA (Nat.zero_le _) (by show sz n u a b g r - 0 < 1024; omega) X
  obtain ⟨z, e1, e2⟩ := hL
  have e1' : p10_layColumns_L18 bA fam ge lv rS (nI r) FU (nI s0.1) (nI 0) cA = some z := e1
  rw [h0] at e1'
  exact ⟨z, e1', e2⟩
theorem M_layColumns (W : WF n u pr a b g) (F : MX n u pr a b fam) (P : PLM n u a b g pl fam) (C : LCM n lc fam) (hlc : ∀ p, p < n → lc p ≤ 8) (L : LAY n u a b g pl bx) :
    ∃ bA' cA' ge' it' lv' ro' rs', p10_layColumns bA cA fam ge it lv ro rS = some (bA', cA', ge', it', lv', ro', rs', nI (rowsN g n)) ∧ LM n u a b g bx bA' ge' it' lv' ro' rs' ∧ CM n u a b g pl (rowsN g n) 0 (call n u pr a b g lc bx (rowsN g n) (fun _ => 0)) cA' := by
  have hR := rows16 W
  obtain ⟨bA1, ge1, it1, lv1, ro1, rs1, e0, G1, B1, BA1⟩ := M_lay (bA := bA) (ge := ge) (it := it) (lv := lv) (ro := ro) (rs := rS) W F P L
  have hL := loop_all (fun k i (z : Nat → Int32) => p10_layColumns_L6 bA1 fam ge1 lv1 rs1 (nI (rowsN g n)) k (nI i) z) (rowsN g n)
    (fun i z => CM n u a b g pl i 0 (call n u pr a b g lc bx i (fun _ => 0)) z) (fun z => CM n u a b g pl (rowsN g n) 0 (call n u pr a b g lc bx (rowsN g n) (fun _ => 0)) z) (by
      intro k z hz
      refine ⟨z, ?_, hz⟩
      try dsimp only
      rw [p10_layColumns_L6, p10_layColumns_L6_B, if_pos (nI_le (Nat.le_refl _) (by omega))]) (by
      intro k i z hi hz
      have Bi := call_CB (r := i) (c := fun _ => 0) (pr := pr) W hlc L
      obtain ⟨cA1, e1, X1⟩ := M_colRow W F G1 B1.2 BA1 C hlc L hi (s0 := (0, call n u pr a b g lc bx i (fun _ => 0))) rfl Bi hz
      refine ⟨cA1, ?_, fun x hx => X1 x (dn_n L hx rfl)⟩
      try dsimp only
      rw [p10_layColumns_L6, p10_layColumns_L6_B, if_neg (nI_ge hi (by omega)), n0, e1]
      simp only [ob, p10_layColumns_J76, lb]
      rw [n1, nI_add]) FU 0 cA (Nat.zero_le _) (by show rowsN g n - 0 < 1024; omega) (fun x hx => by
      rcases hx.2.2 with h | ⟨h1, h2⟩
      · exact absurd h (Nat.not_lt_zero _)
      · exact absurd h2 (Nat.not_lt_zero _))
  obtain ⟨z, e1, e2⟩ := hL
  try dsimp only at e1
  refine ⟨bA1, z, ge1, it1, lv1, ro1, rs1, ?_, ⟨G1, B1, BA1⟩, e2⟩
  unfold p10_layColumns
  rw [e0]
  simp only [ob, uc7]
  rw [n0, e1]
  rfl
end MCOL
