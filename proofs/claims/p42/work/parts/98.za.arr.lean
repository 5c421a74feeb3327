/-! the law's own family sorts as the class does -/
section YARR
variable {n u : Nat} {pr a b g : Nat → Nat} {an : Nat → Nat → Bool} {pn ge lv : Nat → Int32} {un od : Nat → Nat → Int32} {nu no : Nat} {ln : Nat → Nat} {pl : Nat → Nat} {bx : Nat → Nat → Nat}
theorem O_key (W : WF n u pr a b g) (F : OF n u pr a b pn un nu) (G : OG n u a b g ge lv) (O : OO n u a b g bx ln od no) (L : LAY n u a b g pl bx) {p : Nat} (hp : p < n) : p10_key ge lv pn un nu ln od no (nI p) = some (nI (kyP pr a b g pl p)) := by
  have hn := W.n16
  unfold p10_key kyP
  rw [gd_in (by omega) (by omega), nI_clamp (by omega), F.1 p hp]
  by_cases c : pr p < 12
  · rw [if_pos (oN_ge.mpr c), if_pos c, gd_in (by omega) (by omega), oN_in c, O_middle W F G O L (W.pr12 hp c)]
    rfl
  · rw [if_neg (fun z => c (oN_ge.mp z)), if_neg c]
    rfl
theorem O_keys (W : WF n u pr a b g) (F : OF n u pr a b pn un nu) (G : OG n u a b g ge lv) (O : OO n u a b g bx ln od no) (L : LAY n u a b g pl bx) {r : Nat} (hr : r < rowsN g n) :
    ∃ N, p10_arrange_L25 (sz n u a b g r) ge lv ln no nu od pn un (nI r) FU 0 (fun _ => 0) = some N ∧ ∀ k, k < sz n u a b g r → N k = nI (ky pr a b g pl (bx r k)) := by
  have hF := F
  obtain ⟨-, hnu, -⟩ := hF
  subst nu
  have hR := rows16 W
  have hn := W.n16
  have hu := W.u12
  have hsz := sz_le W (r := r)
  obtain ⟨hln, hod⟩ := O.2 r hr
  have h16 : (16 : Int32) = nI 16 := rfl
  have hL := loop_all (fun k i (s : Nat → Int32) => p10_arrange_L25 (sz n u a b g r) ge lv ln no u od pn un (nI r) k (nI i) s) (sz n u a b g r)
    (fun i s => ∀ k, k < i → s k = nI (ky pr a b g pl (bx r k)))
    (fun z => ∀ k, k < sz n u a b g r → z k = nI (ky pr a b g pl (bx r k))) (by
      intro k s hs
      refine ⟨s, ?_, hs⟩
      try dsimp only
      rw [p10_arrange_L25, p10_arrange_L25_B, nI_clamp (by omega), hln]
      exact if_pos (nI_le (Nat.le_refl _) (by omega))) (by
      intro k i s hi hs
      obtain ⟨q1, q2, q3, q4⟩ := L.2 r i hi
      refine ⟨upd s i (nI (ky pr a b g pl (bx r i))), ?_, fun k hk => ?_⟩
      · try dsimp only
        rw [p10_arrange_L25, p10_arrange_L25_B, nI_clamp (show r < 2147483648 by omega), hln]
        rw [show (if Int32.ofNat (sz n u a b g r) ≤ nI i then some s else _) = _ from if_neg (nI_ge hi (by omega))]
        rw [gd_in hi (by omega)]
        simp only [lb]
        rw [nI_clamp (show i < 2147483648 by omega), hod i hi, h16]
        by_cases c : bx r i < 16
        · have hp : bx r i < n := by
            rw [th_p c] at q2
            exact of_decide_eq_true q2
          rw [if_neg (nI_ge c (by omega)), O_key W F G O L hp]
          simp only [ob]
          rw [gd_in hi (by omega)]
          unfold ky
          rw [if_pos c, n1, nI_add]
        · obtain ⟨w, hw⟩ : ∃ w, bx r i = 16 + w := ⟨bx r i - 16, by omega⟩
          rw [hw, th_u] at q2
          simp only [Bool.and_eq_true, decide_eq_true_eq] at q2
          obtain ⟨ha, hb, -⟩ := W.par q2.1
          have hk := kyO_ok W q2.1 q2.2
          rw [if_pos (nI_le (by omega) (by omega)), hw, nI_sub (by omega), show 16 + w - 16 = w by omega, gd_in (by omega) (by omega), gd_in q2.1 (by omega), g03, O_less W F G q2.1]
          simp only [ob]
          rw [nI_clamp (show w < 2147483648 by omega), c0, c1, (F.2.2 w q2.1).1, (F.2.2 w q2.1).2, rN_in q2.2]
          have hkk : ky pr a b g pl (16 + w) = kyP pr a b g pl (kyO a b g w) := by
            unfold ky
            rw [if_neg (by omega), show 16 + w - 16 = w by omega]
          rw [hkk]
          by_cases e : a w = rw_ a b g w
          · have hko : kyO a b g w = b w := if_pos e
            rw [if_pos (by rw [e]), g13, gd_in (by omega) (by omega), gd_in q2.1 (by omega), O_key W F G O L hb, hko]
            simp only []
            rw [gd_in hi (by omega), n1, nI_add]
          · have hko : kyO a b g w = a w := if_neg e
            rw [if_neg (fun z => e ((nI_eq (by omega) (by omega)).mp z)), gd_in (by omega) (by omega), gd_in q2.1 (by omega), g03, O_key W F G O L ha, hko]
            simp only []
            rw [gd_in hi (by omega), n1, nI_add]
      · by_cases e : k = i
        · rw [e, upd_eq]
        · rw [upd_ne e]; exact hs k (by omega)) FU 0 (fun _ => 0) (Nat.zero_le _) (by show sz n u a b g r - 0 < 1024; omega) (fun k hk => absurd hk (Nat.not_lt_zero _))
  obtain ⟨z, e1, h1⟩ := hL
  exact ⟨z, e1, h1⟩
/-- boxes put out in the order of their weights -/
theorem O_out (W : WF n u pr a b g) (O : OO n u a b g bx ln od no) (L : LAY n u a b g pl bx) {r : Nat} (hr : r < rowsN g n) {N : Nat → Int32} {K : Nat → Nat} (hN : ∀ k, k < sz n u a b g r → N k = nI (K k)) (hK : ∀ k, k < sz n u a b g r → K k ≤ 1000) :
    ∃ z, p10_arrange_L131 (sz n u a b g r) N (sz n u a b g r) ln od (nI r) FU 0 0 (fun _ => 0) = some z ∧ ∀ k, k < sz n u a b g r → z (cnt (fun j => decide (K j * 32 + j < K k * 32 + k)) (sz n u a b g r)) = nI (bx r k) := by
  have hR := rows16 W
  have hsz := sz_le W (r := r)
  obtain ⟨hln, hod⟩ := O.2 r hr
  generalize hm : sz n u a b g r = m at *
  have hC : ∀ x, cnt (fun j => decide (K j * 32 + j < x)) m ≤ 28 := fun x => Nat.le_trans (cnt_le _ _) hsz
  have hE : ∀ x, cnt (fun j => decide (K j * 32 + j < x)) m = cnt (fun j => decide (j < m) && decide (K j * 32 + j < x)) m := fun x => cnt_congr fun j hj => by rw [decide_eq_true hj, Bool.true_and]
  have hstep : ∀ i, i < m → cnt (fun j => decide (K j * 32 + j < K i * 32 + i + 1)) m = cnt (fun j => decide (K j * 32 + j < K i * 32 + i)) m + 1 := fun i hi => by
    rw [hE, hE]
    refine cnt_flip (c := i) ?_ ?_ ?_ m hi
    · rw [decide_eq_true hi, Bool.true_and]; exact decide_eq_false (by omega)
    · rw [decide_eq_true hi, Bool.true_and]; exact decide_eq_true (by omega)
    · intro j hj
      by_cases hjm : j < m
      · rw [decide_eq_true hjm, Bool.true_and, Bool.true_and, decide_eq_decide]; omega
      · rw [decide_eq_false hjm, Bool.false_and, Bool.false_and]
  have hlt : ∀ k, k < m → cnt (fun j => decide (K j * 32 + j < K k * 32 + k)) m < m := fun k hk => by
    have h1 := hstep k hk
    have := cnt_le (fun j => decide (K j * 32 + j < K k * 32 + k + 1)) m
    omega
  have hin : ∀ v, v ≤ 1000 → ∀ z0 : Nat → Int32, (∀ k, k < m → K k * 32 + k < v * 32 → z0 (cnt (fun j => decide (K j * 32 + j < K k * 32 + k)) m) = nI (bx r k)) →
      ∃ z, p10_arrange_L142 m N m ln od (nI r) (nI v) FU (nI (cnt (fun j => decide (K j * 32 + j < v * 32)) m)) 0 z0 = some (nI (cnt (fun j => decide (K j * 32 + j < (v + 1) * 32)) m), z) ∧
        ∀ k, k < m → K k * 32 + k < (v + 1) * 32 → z (cnt (fun j => decide (K j * 32 + j < K k * 32 + k)) m) = nI (bx r k) := by
    intro v hv z0 h0
    have hL := loop_all (fun t i (s : Nat → Int32) => p10_arrange_L142 m N m ln od (nI r) (nI v) t (nI (cnt (fun j => decide (K j * 32 + j < v * 32 + i)) m)) (nI i) s) m
      (fun i s => ∀ k, k < m → K k * 32 + k < v * 32 + i → s (cnt (fun j => decide (K j * 32 + j < K k * 32 + k)) m) = nI (bx r k))
      (fun z => z.1 = nI (cnt (fun j => decide (K j * 32 + j < (v + 1) * 32)) m) ∧ ∀ k, k < m → K k * 32 + k < (v + 1) * 32 → z.2 (cnt (fun j => decide (K j * 32 + j < K k * 32 + k)) m) = nI (bx r k)) (by
        intro t s hs
        refine ⟨(nI (cnt (fun j => decide (K j * 32 + j < v * 32 + m)) m), s), ?_, ?_, fun k hk h => hs k hk (by omega)⟩
        · try dsimp only
          rw [p10_arrange_L142, p10_arrange_L142_B, nI_clamp (by omega), hln]
          exact if_pos (nI_le (Nat.le_refl _) (by omega))
        · try dsimp only
          rw [cnt_congr (f := fun j => decide (K j * 32 + j < v * 32 + m)) (g := fun j => decide (K j * 32 + j < (v + 1) * 32)) (fun j hj => by rw [decide_eq_decide]; omega)]) (by
        intro t i s hi hs
        by_cases c : K i = v
        · have hf : cnt (fun j => decide (K j * 32 + j < v * 32 + (i + 1))) m = cnt (fun j => decide (K j * 32 + j < v * 32 + i)) m + 1 := by
            have h := hstep i hi
            rw [c] at h
            exact h
          have hpos : cnt (fun j => decide (K j * 32 + j < v * 32 + i)) m < m := by rw [← c]; exact hlt i hi
          refine ⟨upd s (cnt (fun j => decide (K j * 32 + j < v * 32 + i)) m) (nI (bx r i)), ?_, fun k hk h => ?_⟩
          · try dsimp only
            rw [p10_arrange_L142, p10_arrange_L142_B, nI_clamp (show r < 2147483648 by omega), hln]
            rw [show (if Int32.ofNat m ≤ nI i then some _ else _) = _ from if_neg (nI_ge hi (by omega))]
            rw [gd_in hi (by omega), nI_clamp (show i < 2147483648 by omega), hN i hi, if_pos (by rw [c])]
            simp only [lb]
            rw [gd_in hi (by omega), gd_in hpos (by omega), nI_clamp (show cnt (fun j => decide (K j * 32 + j < v * 32 + i)) m < 2147483648 by omega), hod i hi, n1, nI_add, nI_add, ← hf]
          · by_cases e : k = i
            · subst e
              rw [← c, upd_eq]
            · rw [upd_ne]
              · exact hs k hk (by omega)
              · intro z
                have hck : cnt (fun j => decide (K j * 32 + j < K k * 32 + k)) m + 1 ≤ cnt (fun j => decide (K j * 32 + j < v * 32 + i)) m := by
                  rw [← hstep k hk]
                  exact cnt_imp fun j hj h => by
                    have := of_decide_eq_true h
                    exact decide_eq_true (by omega)
                omega
        · refine ⟨s, ?_, fun k hk h => hs k hk (by
            by_cases e : k = i
            · subst e; omega
            · omega)⟩
          try dsimp only
          rw [p10_arrange_L142, p10_arrange_L142_B, nI_clamp (show r < 2147483648 by omega), hln]
          rw [show (if Int32.ofNat m ≤ nI i then some _ else _) = _ from if_neg (nI_ge hi (by omega))]
          have hKi := hK i hi
          rw [gd_in hi (by omega), nI_clamp (show i < 2147483648 by omega), hN i hi, if_neg (fun z => c ((nI_eq (by omega) (by omega)).mp z))]
          simp only [lb]
          rw [n1, nI_add, cnt_congr (f := fun j => decide (K j * 32 + j < v * 32 + (i + 1))) (g := fun j => decide (K j * 32 + j < v * 32 + i)) (fun j hj => by
            rw [decide_eq_decide]
            have : K j = v → j ≠ i := fun z q => by subst q; exact c z
            omega)]) FU 0 z0 (Nat.zero_le _) (by show m - 0 < 1024; omega) (fun k hk h => h0 k hk (by omega))
    obtain ⟨z, e1, e2, e3⟩ := hL
    refine ⟨z.2, ?_, e3⟩
    rw [← e2]
    exact e1
  have hL := loop_all (fun t v (s : Nat → Int32) => p10_arrange_L131 m N m ln od (nI r) t (nI (cnt (fun j => decide (K j * 32 + j < v * 32)) m)) (nI v) s) 1001
    (fun v s => ∀ k, k < m → K k * 32 + k < v * 32 → s (cnt (fun j => decide (K j * 32 + j < K k * 32 + k)) m) = nI (bx r k))
    (fun z => ∀ k, k < m → z (cnt (fun j => decide (K j * 32 + j < K k * 32 + k)) m) = nI (bx r k)) (by
      intro t s hs
      refine ⟨s, ?_, fun k hk => hs k hk (by have := hK k hk; omega)⟩
      try dsimp only
      rw [p10_arrange_L131, p10_arrange_L131_B, n1000, if_pos (nI_lt (by omega) (by omega))]) (by
      intro t v s hv hs
      obtain ⟨z, e1, h1⟩ := hin v (by omega) s hs
      refine ⟨z, ?_, h1⟩
      try dsimp only
      rw [p10_arrange_L131, p10_arrange_L131_B, n1000, if_neg (nI_nlt (by omega) (by omega)), e1]
      simp only [ob, uc2, p10_arrange_J176, lb]
      rw [n1, nI_add]) FU 0 (fun _ => 0) (Nat.zero_le _) (by show 1001 - 0 < 1024; omega) (fun k hk h => by omega)
  obtain ⟨z, e1, h1⟩ := hL
  refine ⟨z, ?_, h1⟩
  try dsimp only at e1
  rw [cnt_sm, sm_congr (g := fun _ => 0) (fun j _ => if_neg (by simp)), sm_zero] at e1
  exact e1
end YARR
