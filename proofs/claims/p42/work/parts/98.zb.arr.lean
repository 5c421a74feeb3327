/-! all rows sorted -/
section YARB
variable {n u : Nat} {pr a b g : Nat → Nat} {an : Nat → Nat → Bool} {pn ge lv : Nat → Int32} {un od : Nat → Nat → Int32} {nu no : Nat} {ln : Nat → Nat} {pl : Nat → Nat} {bx : Nat → Nat → Nat}
theorem O_sortRow (W : WF n u pr a b g) (O : OO n u a b g bx ln od no) (L : LAY n u a b g pl bx) {r : Nat} (hr : r < rowsN g n) {z : Nat → Int32}
    (hz : ∀ k, k < sz n u a b g r → z (cnt (fun j => decide (ky pr a b g pl (bx r j) * 32 + j < ky pr a b g pl (bx r k) * 32 + k)) (sz n u a b g r)) = nI (bx r k)) :
    OO n u a b g (srtR (ky pr a b g pl) r (sz n u a b g r) (pl, bx)).2 (up1 ln r (sz n u a b g r)) (upR od r z) no := by
  have hsz := sz_le W (r := r)
  have L' := srtR_LAY (key := ky pr a b g pl) (r := r) (s := (pl, bx)) L (Nat.le_refl (sz n u a b g r))
  have hpl : ∀ k, k < sz n u a b g r → pl (bx r k) % 32 = k := fun k hk => by rw [(L.2 r k hk).2.2.2]; omega
  have hs := srtR_ok (pl0 := fun x => pl x % 32) (key := ky pr a b g pl) (r := r) (s := (pl, bx)) L (fun x => Nat.mod_lt _ (by omega)) (fun x hx ht => by
    have h1 := (L.1 x hx ht).1
    have h2 := sz_le W (r := rb a b g x)
    show pl x % 32 = pl x
    omega) (sz n u a b g r) (Nat.le_refl _)
  refine ⟨O.1, fun r' hr' => ?_⟩
  obtain ⟨o1, o2⟩ := O.2 r' hr'
  by_cases e : r' = r
  · subst e
    refine ⟨if_pos rfl, fun k hk => ?_⟩
    show (if r' = r' then z else od r') k = _
    rw [if_pos rfl]
    obtain ⟨q1, q2, q3, q4⟩ := L'.2 r' k hk
    generalize hx : (srtR (ky pr a b g pl) r' (sz n u a b g r') (pl, bx)).2 r' k = x at q1 q2 q3
    obtain ⟨w1, w2⟩ := L.1 x q1 q2
    rw [q3] at w1 w2
    have h1 := hz (pl x) w1
    rw [w2] at h1
    rw [← h1]
    congr 1
    have h2 := wrk_sorted (key := ky pr a b g pl) (pl0 := fun x => pl x % 32) L' hs hk
    rw [hx, wrk_places L] at h2
    rw [← h2]
    refine cnt_congr fun j hj => ?_
    rw [decide_eq_decide]
    unfold wt
    dsimp only
    rw [hpl j hj, show pl x % 32 = pl x by omega]
  · refine ⟨(if_neg e).trans o1, fun k hk => ?_⟩
    show (if r' = r then z else od r') k = _
    rw [if_neg e, srtR_out _ _ r' k (Or.inl e)]
    exact o2 k hk
theorem O_arrange (W : WF n u pr a b g) (F : OF n u pr a b pn un nu) (G : OG n u a b g ge lv) (O : OO n u a b g bx ln od no) (L : LAY n u a b g pl bx) :
    ∃ ln' od', p10_arrange (nI (rowsN g n)) ge lv pn un nu ln od no = some (ln', no, od') ∧ OO n u a b g (srtA n u pr a b g (rowsN g n - 1) (pl, bx)).2 ln' od' no := by
  have hR := rows16 W
  have h0 := O.1
  have hL := loop_all (fun k i (s : (Nat → Nat) × (Nat → Nat → Int32)) => p10_arrange_L2 ge lv nu pn (nI (rowsN g n)) un k (nI (i + 1)) s.1 no s.2) (rowsN g n - 1)
    (fun i s => OO n u a b g (srtA n u pr a b g i (pl, bx)).2 s.1 s.2 no)
    (fun z => ∃ ln' od', z = (ln', no, od') ∧ OO n u a b g (srtA n u pr a b g (rowsN g n - 1) (pl, bx)).2 ln' od' no) (by
      intro k s hs
      refine ⟨(s.1, no, s.2), ?_, s.1, s.2, rfl, hs⟩
      try dsimp only
      rw [p10_arrange_L2, p10_arrange_L2_B, if_pos (nI_le (by omega) (by omega))]) (by
      intro k i s hi hs
      have hr : i + 1 < rowsN g n := by omega
      have Li := srtA_LAY (n := n) (u := u) (pr := pr) (a := a) (b := b) (g := g) (r := i) (s := (pl, bx)) L
      have hsz := sz_le W (r := i + 1)
      have hstep : srtA n u pr a b g (i + 1) (pl, bx) = srtR (ky pr a b g (srtA n u pr a b g i (pl, bx)).1) (i + 1) (sz n u a b g (i + 1)) (srtA n u pr a b g i (pl, bx)) := rfl
      rw [hstep]
      generalize srtA n u pr a b g i (pl, bx) = Z at hs Li ⊢
      obtain ⟨hln, hod⟩ := hs.2 (i + 1) hr
      obtain ⟨N, e1, h1⟩ := O_keys W F G hs Li hr
      obtain ⟨z, e2, h2⟩ := O_out (K := fun k => ky pr a b g Z.1 (Z.2 (i + 1) k)) W hs Li hr h1 (fun k hk => by
        have := ky_lt W Li (Li.2 (i + 1) k hk).2.1
        show ky pr a b g Z.1 (Z.2 (i + 1) k) ≤ 1000
        omega)
      refine ⟨(up1 s.1 (i + 1) (sz n u a b g (i + 1)), upR s.2 (i + 1) z), ?_, O_sortRow W hs Li hr h2⟩
      try dsimp only
      rw [p10_arrange_L2, p10_arrange_L2_B, if_neg (nI_ge hr (by omega)), gd_in (by omega) (by omega), gd_in (by omega) (by omega), nI_clamp (show i + 1 < 2147483648 by omega), hln, show Int32.ofNat (sz n u a b g (i + 1)) = nI (sz n u a b g (i + 1)) from rfl, gd_in (by omega) (by omega)]
      simp only [lb]
      rw [nI_clamp (show sz n u a b g (i + 1) < 2147483648 by omega), e1]
      simp only [ob, p10_arrange_J119]
      rw [nI_clamp (show i + 1 < 2147483648 by omega), hln, show Int32.ofNat (sz n u a b g (i + 1)) = nI (sz n u a b g (i + 1)) from rfl, gd_in (by omega) (by omega)]
      simp only [lb]
      rw [nI_clamp (show sz n u a b g (i + 1) < 2147483648 by omega), e2]
      simp only [ob, p10_arrange_J182]
      rw [gd_in (by omega) (by omega), gd_in (by omega) (by omega)]
      simp only [lb]
      rw [nI_clamp (show i + 1 < 2147483648 by omega), n1, nI_add]) FU 0 (ln, od) (Nat.zero_le _) (by show rowsN g n - 1 - 0 < 1024; omega) O
  obtain ⟨z, e1, ln', od', rfl, h1⟩ := hL
  refine ⟨ln', od', ?_, h1⟩
  have e1' : p10_arrange_L2 ge lv nu pn (nI (rowsN g n)) un FU (nI 1) ln no od = some (ln', no, od') := e1
  unfold p10_arrange
  rw [n1, e1']
  rfl
end YARB
