/-! what is drawn is a family -/
theorem upair_congr {a b a' b' : Nat → Nat} {p q : Nat} : ∀ d i, (∀ w, i ≤ w → w < i + d → a' w = a w ∧ b' w = b w) → upair a' b' p q d i = upair a b p q d i := by
  intro d
  induction d with
  | zero => intro i _; rfl
  | succ d ih =>
    intro i h
    obtain ⟨h1, h2⟩ := h i (Nat.le_refl _) (by omega)
    show (if (p != q && (a' i == p || b' i == p) && (a' i == q || b' i == q)) = true then i else upair a' b' p q d (i + 1)) = (if (p != q && (a i == p || b i == p) && (a i == q || b i == q)) = true then i else upair a b p q d (i + 1))
    rw [h1, h2, ih (i + 1) (fun w h1 h2 => h w (by omega) (by omega))]
/-- a family drawn so far: u unions, no pair twice -/
def DRW (n u : Nat) (pr a b g : Nat → Nat) (an : Nat → Nat → Bool) (uy : Nat → Nat) (pn : Nat → Int32) (un : Nat → Nat → Int32) : Prop :=
  WF n u pr a b g ∧ ANC n pr a b an ∧ OF n u pr a b pn un u ∧ (∀ w, w < u → un w 2 = nI (uy w) ∧ uy w ≤ 2100) ∧ ∀ w, w < u → ¬ upair a b (a w) (b w) w 0 < 12
section YDRW
variable {n u : Nat} {pr a b g uy : Nat → Nat} {an : Nat → Nat → Bool} {pn : Nat → Int32} {un : Nat → Nat → Int32} {adV : Nat → Nat}
theorem R_29 {s0 : Nat → Int32} : ∃ s, pL_drawn_L29 FU 0 s0 = some s ∧ ∀ p, p < 16 → s p = -1 := by
  exact loop_all (fun k i (s : Nat → Int32) => pL_drawn_L29 k (nI i) s) 16 (fun i s => ∀ p, p < i → s p = -1) (fun s => ∀ p, p < 16 → s p = -1) (by
    intro k s hs
    refine ⟨s, ?_, hs⟩
    try dsimp only
    rw [pL_drawn_L29, pL_drawn_L29_B, n16, if_pos (nI_le (Nat.le_refl _) (by omega))]) (by
    intro k i s hi hs
    refine ⟨upd s i (-1), ?_, fun p hp => ?_⟩
    · try dsimp only
      rw [pL_drawn_L29, pL_drawn_L29_B, n16, if_neg (nI_ge hi (by omega)), gd_in hi (by omega), nI_clamp (by omega)]
      simp only [lb]
      rw [n1, nI_add]
    · by_cases e : p = i
      · rw [e, upd_eq]
      · rw [upd_ne e]; exact hs p (by omega)) FU 0 s0 (Nat.zero_le _) (by show 16 - 0 < 1024; omega) (fun p hp => absurd hp (Nat.not_lt_zero _))
theorem R_53 (hA : adV 21 ≤ 260) (hn : n ≤ 16) : ∃ (lc yr : Nat → Nat) (letters year : Nat → Int32), pL_drawn_L53 adV (nI n) 0 FU 0 (fun _ => 0) (fun _ => 0) = some (letters, year) ∧ ∀ p, p < n → letters p = nI (lc p) ∧ 2 ≤ lc p ∧ lc p ≤ 8 ∧ year p = nI (yr p) ∧ yr p ≤ 2100 := by
  have hL := loop_all (fun k i (s : (Nat → Int32) × (Nat → Int32)) => pL_drawn_L53 adV (nI n) 0 k (nI i) s.1 s.2) n
    (fun i s => ∀ p, p < i → ∃ l y, s.1 p = nI l ∧ 2 ≤ l ∧ l ≤ 8 ∧ s.2 p = nI y ∧ y ≤ 2100)
    (fun z => ∀ p, p < n → ∃ l y, z.1 p = nI l ∧ 2 ≤ l ∧ l ≤ 8 ∧ z.2 p = nI y ∧ y ≤ 2100) (by
      intro k s hs
      refine ⟨(s.1, s.2), ?_, hs⟩
      try dsimp only
      rw [pL_drawn_L53, pL_drawn_L53_B, if_pos (nI_le (Nat.le_refl _) (by omega))]) (by
      intro k i s hi hs
      obtain ⟨x, hx⟩ := M_cell hA (k := 0 + 1 + (i - i / 6 * 6)) (by omega)
      have hx' : pL_cell adV ((0 : Int32) + 1 + (nI i - nI i / 6 * 6)) = some x := by
        rw [show (6 : Int32) = nI 6 from rfl, nI_div (by omega) (by omega), nI_mul, nI_sub (Nat.div_mul_le_self i 6), n0, n1, nI_add, nI_add]
        exact hx
      obtain ⟨y, hy, ey⟩ := M_most (x >>> (((nI i / 6) * 4) &&& 31)) (m := 2101) (by omega) (by omega)
      obtain ⟨l, hl, el⟩ := M_most ((x >>> (((nI i / 6) * 4) &&& 31)) >>> (3 &&& 31)) (m := 7) (by omega) (by omega)
      refine ⟨(upd s.1 i (nI (2 + l)), upd s.2 i (nI y)), ?_, fun p hp => ?_⟩
      · try dsimp only
        rw [pL_drawn_L53, pL_drawn_L53_B, if_neg (nI_ge hi (by omega)), hx']
        simp only [ob, lb_eq]
        rw [show (2101 : Int32) = nI 2101 from rfl, ey]
        simp only []
        rw [gd_in (by omega) (by omega), show (7 : Int32) = nI 7 from rfl, el]
        simp only []
        rw [gd_in (by omega) (by omega), nI_clamp (by omega), n2, n1, nI_add, nI_add]
      · by_cases e : p = i
        · subst e
          exact ⟨2 + l, y, upd_eq, by omega, by omega, upd_eq, by omega⟩
        · obtain ⟨l', y', h1, h2, h3, h4, h5⟩ := hs p (by omega)
          exact ⟨l', y', (upd_ne e).trans h1, h2, h3, (upd_ne e).trans h4, h5⟩) FU 0 (fun _ => 0, fun _ => 0) (Nat.zero_le _) (by show n - 0 < 1024; omega) (fun p hp => absurd hp (Nat.not_lt_zero _))
  obtain ⟨z, e1, h1⟩ := hL
  have h2 : ∀ p, ∃ l y, p < n → z.1 p = nI l ∧ 2 ≤ l ∧ l ≤ 8 ∧ z.2 p = nI y ∧ y ≤ 2100 := fun p => by
    by_cases c : p < n
    · obtain ⟨l, y, h⟩ := h1 p c
      exact ⟨l, y, fun _ => h⟩
    · exact ⟨0, 0, fun h => absurd h c⟩
  exact ⟨fun p => Classical.choose (h2 p), fun p => Classical.choose (Classical.choose_spec (h2 p)), z.1, z.2, e1, fun p hp => Classical.choose_spec (Classical.choose_spec (h2 p)) hp⟩
theorem R_262 (D : DRW n (u + 1) pr a b g an uy pn un) (hn0 : 0 < n) (x : Int32) : ∃ pr' g' an' pn', pL_drawn_L262 (u + 1) (nI n) un x (nI (u + 1)) FU 0 pn = some pn' ∧ DRW n (u + 1) pr' a b g' an' uy pn' un := by
  have hn := D.1.n16
  have hu := D.1.u12
  have hL := loop_all (fun k i (s : Nat → Int32) => pL_drawn_L262 (u + 1) (nI n) un x (nI (u + 1)) k (nI i) s) 4
    (fun _ s => ∃ pr' g' an', DRW n (u + 1) pr' a b g' an' uy s un)
    (fun z => ∃ pr' g' an', DRW n (u + 1) pr' a b g' an' uy z un) (by
      intro k s hs
      refine ⟨s, ?_, hs⟩
      try dsimp only
      rw [pL_drawn_L262, pL_drawn_L262_B, show (4 : Int32) = nI 4 from rfl, if_pos (nI_le (Nat.le_refl _) (by omega))]) (by
      rintro k i s hi ⟨pr', g', an', W, AN, F, Y⟩
      obtain ⟨p, hp, ep⟩ := M_most (x >>> ((7 + nI i) &&& 31)) (m := n) hn0 (by omega)
      have ht : nI (u + 1) - 1 = nI u := by rw [n1, nI_sub (by omega)]; rfl
      have h4 : ¬ (4 : Int32) ≤ nI i := by rw [show (4 : Int32) = nI 4 from rfl]; exact nI_ge hi (by omega)
      have hs1 : nI i + 1 = nI (i + 1) := by rw [n1, nI_add]
      by_cases c : pr' p < 12
      · refine ⟨s, ?_, pr', g', an', W, AN, F, Y⟩
        try dsimp only
        rw [pL_drawn_L262, pL_drawn_L262_B, if_neg h4, ep]
        simp only [ob]
        rw [gd_in (by omega) (by omega), nI_clamp (by omega), F.1 p hp, if_pos (oN_ge.mpr c)]
        simp only [lb]
        rw [hs1]
      · cases d : (p == a u || an' (a u) p || (p == b u || an' (b u) p)) with
        | true =>
          refine ⟨s, ?_, pr', g', an', W, AN, F, Y⟩
          try dsimp only
          rw [pL_drawn_L262, pL_drawn_L262_B, if_neg h4, ep]
          simp only [ob]
          rw [gd_in (by omega) (by omega), nI_clamp (by omega), F.1 p hp, if_neg (fun z => c (oN_ge.mp z)), ht, O_can W AN F (w := u) (by omega) hp, d]
          simp only [Bool.not_true, cond, lb]
          rw [hs1]
        | false =>
          have d1 : (p == a u || an' (a u) p) = false := by
            cases q : (p == a u || an' (a u) p) with
            | false => rfl
            | true => rw [q] at d; simp at d
          have d2 : (p == b u || an' (b u) p) = false := by
            cases q : (p == b u || an' (b u) p) with
            | false => rfl
            | true => rw [q] at d; simp at d
          obtain ⟨g2, an2, W2, AN2⟩ := adopt_exists W AN (w := u) (by omega) hp d1 d2
          refine ⟨upd s p (nI u), ?_, updN pr' p u, g2, an2, W2, AN2, ⟨fun q hq => ?_, rfl, F.2.2⟩, Y⟩
          · try dsimp only
            rw [pL_drawn_L262, pL_drawn_L262_B, if_neg h4, ep]
            simp only [ob]
            rw [gd_in (by omega) (by omega), nI_clamp (by omega), F.1 p hp, if_neg (fun z => c (oN_ge.mp z)), ht, O_can W AN F (w := u) (by omega) hp, d]
            simp only [Bool.not_false, cond, lb]
            rw [gd_in (by omega) (by omega), hs1]
          · unfold updN
            by_cases e : q = p
            · rw [e, upd_eq, if_pos rfl, oN_in (by omega)]
            · rw [upd_ne e, if_neg e]; exact F.1 q hq) FU 0 pn (Nat.zero_le _) (by show 4 - 0 < 1024; omega) ⟨pr, g, an, D⟩
  obtain ⟨z, e1, pr', g', an', h1⟩ := hL
  exact ⟨pr', g', an', z, e1, h1⟩
theorem R_139 (hA : adV 21 ≤ 260) (D : DRW n 0 pr a b g an uy pn un) (hn0 : 0 < n) {K : Nat} (hK : K ≤ 9) :
    ∃ u pr' a' b' g' an' uy' pn' un', pL_drawn_L139 adV (nI n) (nI K) 0 FU 0 0 pn un 0 = some (u, pn', un', nI u) ∧ DRW n u pr' a' b' g' an' uy' pn' un' ∧ u ≤ 9 := by
  have hn := D.1.n16
  have hL := loop_all (fun k i (s : Nat × (Nat → Int32) × (Nat → Nat → Int32) × Int32) => pL_drawn_L139 adV (nI n) (nI K) 0 k (nI i) s.1 s.2.1 s.2.2.1 s.2.2.2) K
    (fun i s => s.1 ≤ i ∧ s.2.2.2 = nI s.1 ∧ ∃ pr' a' b' g' an' uy', DRW n s.1 pr' a' b' g' an' uy' s.2.1 s.2.2.1)
    (fun z => z.1 ≤ K ∧ z.2.2.2 = nI z.1 ∧ ∃ pr' a' b' g' an' uy', DRW n z.1 pr' a' b' g' an' uy' z.2.1 z.2.2.1) (by
      intro k s hs
      refine ⟨(s.1, s.2.1, s.2.2.1, s.2.2.2), ?_, hs⟩
      try dsimp only
      rw [pL_drawn_L139, pL_drawn_L139_B, if_pos (nI_le (Nat.le_refl _) (by omega))]) (by
      rintro k i ⟨u, pn1, un1, un2⟩ hi ⟨hu, hun, pr', a', b', g', an', uy', W, AN, F, Y⟩
      dsimp only at hu hun W AN F Y
      subst un2
      obtain ⟨x, hx⟩ := M_cell hA (k := 0 + 7 + (i - i / 5 * 5)) (by omega)
      have hx' : pL_cell adV ((0 : Int32) + 7 + (nI i - nI i / 5 * 5)) = some x := by
        rw [show (5 : Int32) = nI 5 from rfl, nI_div (by omega) (by omega), nI_mul, nI_sub (Nat.div_mul_le_self i 5), n0, show (7 : Int32) = nI 7 from rfl, nI_add, nI_add]
        exact hx
      generalize hX : x >>> (((nI i / 5) * 4) &&& 31) = X
      obtain ⟨p, hp, ep⟩ := M_most X (m := n) hn0 (by omega)
      obtain ⟨q, hq, eq⟩ := M_most (X >>> (4 &&& 31)) (m := n) hn0 (by omega)
      obtain ⟨y, hy, ey⟩ := M_most (X >>> (6 &&& 31)) (m := 2101) (by omega) (by omega)
      have hs1 : nI i + 1 = nI (i + 1) := by rw [n1, nI_add]
      have hskip : ∃ s' : Nat × (Nat → Int32) × (Nat → Nat → Int32) × Int32, pL_drawn_J329 (pL_drawn_L139 adV (nI n) (nI K) 0 k) (nI i) (nI u) pn1 un1 u = pL_drawn_L139 adV (nI n) (nI K) 0 k (nI (i + 1)) s'.1 s'.2.1 s'.2.2.1 s'.2.2.2 ∧ s'.1 ≤ i + 1 ∧ s'.2.2.2 = nI s'.1 ∧ ∃ pr' a' b' g' an' uy', DRW n s'.1 pr' a' b' g' an' uy' s'.2.1 s'.2.2.1 := by
        refine ⟨(u, pn1, un1, nI u), ?_, by dsimp only; omega, rfl, pr', a', b', g', an', uy', W, AN, F, Y⟩
        simp only [pL_drawn_J329, lb]
        rw [hs1]
      dsimp only
      rw [pL_drawn_L139, pL_drawn_L139_B, if_neg (nI_ge hi (by omega)), hx']
      simp only [ob, lb_eq]
      rw [hX, ep]
      simp only []
      rw [eq]
      simp only []
      by_cases c3 : p = q
      · rw [if_pos (by rw [c3])]
        exact hskip
      rw [if_neg (fun z => c3 ((nI_eq (by omega) (by omega)).mp z)), O_known W F hp hq c3]
      simp only []
      cases c4 : decide (upair a' b' p q u 0 < 12) with
      | true =>
        simp only [cond]
        exact hskip
      | false =>
        simp only [cond]
        have hu2 : u < 12 := by omega
        obtain ⟨W1, AN1⟩ := marry_wf W AN hu2 hp hq c3
        have D1 : DRW n (u + 1) pr' (updN a' u p) (updN b' u q) g' an' (updN uy' u y) pn1 (upR un1 u (upd (upd (upd (fun _ => 0) 0 (nI p)) 1 (nI q)) 2 (nI y))) := by
          refine ⟨W1, AN1, ⟨F.1, rfl, fun w hw => ?_⟩, fun w hw => ?_, fun w hw => ?_⟩
          · unfold upR updN
            by_cases e : w = u
            · rw [if_pos e, if_pos e, if_pos e]
              exact ⟨by rw [upd_ne (by omega), upd_ne (by omega), upd_eq], by rw [upd_ne (by omega), upd_eq]⟩
            · rw [if_neg e, if_neg e, if_neg e]
              exact F.2.2 w (by omega)
          · unfold upR updN
            by_cases e : w = u
            · rw [if_pos e, if_pos e, upd_eq]
              exact ⟨rfl, by omega⟩
            · rw [if_neg e, if_neg e]
              exact Y.1 w (by omega)
          · rw [upair_congr (a' := updN a' u p) (b' := updN b' u q) (a := a') (b := b') w 0 (fun v _ hv => ⟨show (if v = u then p else a' v) = a' v from if_neg (by omega), show (if v = u then q else b' v) = b' v from if_neg (by omega)⟩)]
            unfold updN
            by_cases e : w = u
            · rw [if_pos e, if_pos e, e]
              exact of_decide_eq_false c4
            · rw [if_neg e, if_neg e]
              exact Y.2 w (by omega)
        obtain ⟨pr2, g2, an2, pn2, e2, D2⟩ := R_262 D1 hn0 X
        refine ⟨(u + 1, pn2, upR un1 u (upd (upd (upd (fun _ => 0) 0 (nI p)) 1 (nI q)) 2 (nI y)), nI (u + 1)), ?_, by dsimp only; omega, rfl, pr2, _, _, g2, an2, _, D2⟩
        rw [g03, g13, show (2101 : Int32) = nI 2101 from rfl, ey]
        simp only []
        rw [n2, gd_in (by omega) (by omega), gd_in hu2 (by omega), ge_in2 (by omega), ← n2, c0, c1', c2, n1, nI_add, e2]
        simp only [pL_drawn_J329, lb]
        rw [n1, nI_add]) FU 0 (0, pn, un, 0) (Nat.zero_le _) (by show K - 0 < 1024; omega) ⟨Nat.le_refl _, rfl, pr, a, b, g, an, uy, D⟩
  obtain ⟨⟨u, pn', un', un2⟩, e1, h1, hun, pr', a', b', g', an', uy', D'⟩ := hL
  dsimp only at hun
  subst un2
  exact ⟨u, pr', a', b', g', an', uy', pn', un', e1, D', by dsimp only at h1; omega⟩
theorem R_drawn (hA : adV 21 ≤ 260) :
    ∃ (n u : Nat) (pr a b g : Nat → Nat) (an : Nat → Nat → Bool) (uy lc yr : Nat → Nat) (ge2 letters lv2 pn year : Nat → Int32) (un : Nat → Nat → Int32) (ln : Nat → Nat) (od2 : Nat → Nat → Int32), pL_drawn adV 0 = some (nI n, nI u, nI (rowsN g n), ge2, letters, lv2, pn, year, un, u, ln, od2, rowsN g n) ∧ 4 ≤ n ∧ n ≤ 13 ∧ u ≤ 9 ∧ DRW n u pr a b g an uy pn un ∧
      OG n u a b g ge2 lv2 ∧ OO n u a b g (pbx n u a b g) ln od2 (rowsN g n) ∧ ∀ p, p < n → letters p = nI (lc p) ∧ 2 ≤ lc p ∧ lc p ≤ 8 ∧ year p = nI (yr p) ∧ yr p ≤ 2100 := by
  obtain ⟨x, hx⟩ := M_cell hA (k := 0) (by omega)
  obtain ⟨k, hk, ek⟩ := M_most x (m := 10) (by omega) (by omega)
  obtain ⟨k2, hk2, ek2⟩ := M_most (x >>> (4 &&& 31)) (m := 9) (by omega) (by omega)
  obtain ⟨s, e1, h1⟩ := R_29 (s0 := fun _ => 0)
  obtain ⟨lc, yr, letters, year, e2, h2⟩ := R_53 (n := 4 + k) hA (by omega)
  have D0 : DRW (4 + k) 0 (fun _ => 12) (fun _ => 0) (fun _ => 0) (fun _ => 0) (fun _ _ => false) (fun _ => 0) s (fun _ _ => 0) := by
    refine ⟨⟨by omega, by omega, fun p _ => Or.inl rfl, fun w hw => absurd hw (Nat.not_lt_zero _), fun p hp => (if_neg (show ¬ 12 < 12 by omega)).symm, fun p hp => (show 0 < 4 + k by omega)⟩, fun p hp q => (if_neg (show ¬ 12 < 12 by omega)).symm, ⟨fun p hp => h1 p (by omega), rfl, fun w hw => absurd hw (Nat.not_lt_zero _)⟩, fun w hw => absurd hw (Nat.not_lt_zero _), fun w hw => absurd hw (Nat.not_lt_zero _)⟩
  obtain ⟨u, pr', a', b', g', an', uy', pn', un', e3, D', hu9⟩ := R_139 hA D0 (by omega) (K := 1 + k2) (by omega)
  obtain ⟨ge2, lv2, ln, od2, e4, G, O⟩ := O_plain (ge := fun _ => 0) (lv := fun _ => 0) (ln := fun _ => 0) (od := fun _ _ => 0) D'.1 D'.2.2.1
  refine ⟨4 + k, u, pr', a', b', g', an', uy', lc, yr, ge2, letters, lv2, pn', year, un', ln, od2, ?_, by omega, by omega, hu9, D', G, O, h2⟩
  unfold pL_drawn
  rw [show pL_cell adV 0 = some x from hx]
  simp only [ob, lb_eq]
  rw [n10, ek]
  simp only []
  rw [e1]
  simp only [pL_drawn_J50, ob]
  rw [show (4 : Int32) + nI k = nI (4 + k) by rw [show (4 : Int32) = nI 4 from rfl, nI_add], e2]
  simp only [uc2, pL_drawn_J124, ob, lb_eq]
  rw [show (9 : Int32) = nI 9 from rfl, ek2]
  simp only []
  rw [n1, nI_add, e3]
  simp only [uc4, pL_drawn_J335, ob]
  rw [e4]
  rfl
end YDRW
