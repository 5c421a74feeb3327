theorem ge_in {α : Type} {i : Nat} {k : Option α} (h : i < 2147483648) : ge (nI i) i k = k := by
  unfold ge
  rw [nI_clamp h, if_pos rfl]
section OWN4
variable {n u : Nat} {pr a b g : Nat → Nat} {an : Nat → Nat → Bool} {pn ge lv N0 : Nat → Int32} {un od : Nat → Nat → Int32} {nu no : Nat} {ln : Nat → Nat} {pl : Nat → Nat} {bx : Nat → Nat → Nat}
theorem inr_lt28 (W : WF n u pr a b g) {r x : Nat} (h : inr n u a b g r x = true) : x < 28 := th28 W (inr_iff.mp h).1
theorem cnt28_lt (W : WF n u pr a b g) {r x : Nat} (h : inr n u a b g r x = true) : cnt (inr n u a b g r) x < 28 := by
  have := cnt_le (inr n u a b g r) x
  have := inr_lt28 W h
  omega
theorem O_layP (W : WF n u pr a b g) (hge : ∀ p, p < n → ge p = nI (g p)) {r : Nat} (hr : r < 100) :
    ∃ N1, p10_plain_L162 ge (nI n) (nI r) FU (nI 0) (nI 0) N0 = some (nI (cnt (inr n u a b g r) 16), N1) ∧ ∀ x, x < 16 → inr n u a b g r x = true → N1 (cnt (inr n u a b g r) x) = nI x := by
  have hn := W.n16
  have hcl : ∀ i, cnt (inr n u a b g r) i ≤ i := fun i => cnt_le _ i
  obtain ⟨s1, e1, q1, q2⟩ := loop_all (fun k i (s : Nat × (Nat → Int32)) => p10_plain_L162 ge (nI n) (nI r) k (nI s.1) (nI i) s.2) n
    (fun i s => s.1 = cnt (inr n u a b g r) i ∧ ∀ x, x < i → inr n u a b g r x = true → s.2 (cnt (inr n u a b g r) x) = nI x)
    (fun (s : Int32 × (Nat → Int32)) => s.1 = nI (cnt (inr n u a b g r) n) ∧ ∀ x, x < n → inr n u a b g r x = true → s.2 (cnt (inr n u a b g r) x) = nI x) (by
      intro k s hs
      refine ⟨(nI s.1, s.2), ?_, by rw [hs.1], hs.2⟩
      try dsimp only
      rw [p10_plain_L162, p10_plain_L162_B, if_pos (nI_le (Nat.le_refl _) (by omega))]) (by
      intro k i s hi hs
      obtain ⟨h1, h2⟩ := hs
      have hg := W.glt hi
      have hc := hcl i
      have hgen : p10_gen ge (nI i) = some (nI (g i)) := by
        unfold p10_gen
        rw [gd_in (by omega) (by omega), nI_clamp (by omega), hge i hi]
      by_cases e : g i = r
      · have hin : inr n u a b g r i = true := (inr_p hi hn).mpr e
        refine ⟨(s.1 + 1, upd s.2 s.1 (nI i)), ?_, ?_, fun x hx hxr => ?_⟩
        · try dsimp only
          rw [p10_plain_L162, p10_plain_L162_B, if_neg (nI_ge hi (by omega)), hgen]
          simp only [ob]
          rw [if_pos (by rw [e])]
          simp only [lb]
          rw [gd_in (by omega) (by omega), nI_clamp (by omega), n1, nI_add, nI_add]
        · rw [cnt_s, if_pos hin]; dsimp only; omega
        · dsimp only
          by_cases e2 : x = i
          · rw [e2, h1, upd_eq]
          · have : cnt (inr n u a b g r) x < cnt (inr n u a b g r) i := cnt_lt (by omega) hxr
            rw [upd_ne (by omega)]; exact h2 x (by omega) hxr
      · have hin : ¬ inr n u a b g r i = true := fun q => e ((inr_p hi hn).mp q)
        refine ⟨(s.1, s.2), ?_, by rw [cnt_s, if_neg hin]; dsimp only; omega, fun x hx hxr => ?_⟩
        · try dsimp only
          rw [p10_plain_L162, p10_plain_L162_B, if_neg (nI_ge hi (by omega)), hgen]
          simp only [ob]
          rw [if_neg (fun q => e ((nI_eq (by omega) (by omega)).mp q))]
          simp only [lb]
          rw [n1, nI_add]
        · by_cases e2 : x = i
          · rw [e2] at hxr; exact absurd hxr hin
          · exact h2 x (by omega) hxr) FU 0 (0, N0) (Nat.zero_le _) (by show n - 0 < 1024; omega) ⟨rfl, fun x hx => absurd hx (Nat.not_lt_zero _)⟩
  have hc16 : cnt (inr n u a b g r) 16 = cnt (inr n u a b g r) n := cnt_ext0 hn fun i h1 h2 => inr_pout h1 h2
  refine ⟨s1.2, ?_, fun x hx hxr => ?_⟩
  · rw [hc16, ← q1]; exact e1
  · by_cases e3 : x < n
    · exact q2 x e3 hxr
    · rw [inr_pout (by omega) (by omega)] at hxr
      cases hxr
theorem O_layU (W : WF n u pr a b g) (F : OF n u pr a b pn un nu) (G : OG n u a b g ge lv) {r : Nat} (hr : r < 100) (h0 : ∀ x, x < 16 → inr n u a b g r x = true → N0 (cnt (inr n u a b g r) x) = nI x) :
    ∃ N1, p10_plain_L198 ge lv nu un (nI u) (nI r) FU (nI (cnt (inr n u a b g r) 16)) (nI 0) N0 = some (nI (sz n u a b g r), N1) ∧ ∀ x, x < 28 → inr n u a b g r x = true → N1 (cnt (inr n u a b g r) x) = nI x := by
  have hn := W.n16
  have hu := W.u12
  have hcl : ∀ i, cnt (inr n u a b g r) i ≤ i := fun i => cnt_le _ i
  obtain ⟨s1, e1, q1, q2⟩ := loop_all (fun k i (s : Nat × (Nat → Int32)) => p10_plain_L198 ge lv nu un (nI u) (nI r) k (nI s.1) (nI i) s.2) u
    (fun i s => s.1 = cnt (inr n u a b g r) (16 + i) ∧ ∀ x, x < 16 + i → inr n u a b g r x = true → s.2 (cnt (inr n u a b g r) x) = nI x)
    (fun (s : Int32 × (Nat → Int32)) => s.1 = nI (cnt (inr n u a b g r) (16 + u)) ∧ ∀ x, x < 16 + u → inr n u a b g r x = true → s.2 (cnt (inr n u a b g r) x) = nI x) (by
      intro k s hs
      refine ⟨(nI s.1, s.2), ?_, by rw [hs.1], hs.2⟩
      try dsimp only
      rw [p10_plain_L198, p10_plain_L198_B, if_pos (nI_le (Nat.le_refl _) (by omega))]) (by
      intro k i s hi hs
      obtain ⟨h1, h2⟩ := hs
      have hl := lw_lt W hi
      have hc := hcl (16 + i)
      by_cases e6 : lw a b g i = r
      · by_cases e3 : rw_ a b g i < 16
        · have e : inr n u a b g r (16 + i) = true := (inr_u hi).mpr ⟨e3, e6⟩
          have hp := cnt28_lt W e
          refine ⟨(s.1 + 1, upd s.2 s.1 (nI (16 + i))), ?_, ?_, fun x hx hxr => ?_⟩
          · try dsimp only
            rw [p10_plain_L198, p10_plain_L198_B, if_neg (nI_ge hi (by omega)), O_level W G hi]
            simp only [ob]
            rw [if_pos (by rw [e6]), O_less W F G hi]
            simp only [ob]
            rw [rN_in e3, n0, if_neg (nI_nlt (by omega) (by omega))]
            simp only [lb]
            rw [gd_in (by omega) (by omega), nI_clamp (by omega), n16, nI_add, n1, nI_add, nI_add]
          · rw [show 16 + (i + 1) = (16 + i) + 1 from rfl, cnt_s, if_pos e]; dsimp only; omega
          · dsimp only
            by_cases e5 : x = 16 + i
            · rw [e5, h1, upd_eq]
            · have : cnt (inr n u a b g r) x < cnt (inr n u a b g r) (16 + i) := cnt_lt (by omega) hxr
              rw [upd_ne (by omega)]; exact h2 x (by omega) hxr
        · have e : ¬ inr n u a b g r (16 + i) = true := fun q => e3 ((inr_u hi).mp q).1
          refine ⟨(s.1, s.2), ?_, by rw [show 16 + (i + 1) = (16 + i) + 1 from rfl, cnt_s, if_neg e]; dsimp only; omega, fun x hx hxr => ?_⟩
          · try dsimp only
            rw [p10_plain_L198, p10_plain_L198_B, if_neg (nI_ge hi (by omega)), O_level W G hi]
            simp only [ob]
            rw [if_pos (by rw [e6]), O_less W F G hi]
            simp only [ob]
            rw [rN_out e3, if_pos (by decide)]
            simp only [lb]
            rw [n1, nI_add]
          · by_cases e5 : x = 16 + i
            · rw [e5] at hxr; exact absurd hxr e
            · exact h2 x (by omega) hxr
      · have e : ¬ inr n u a b g r (16 + i) = true := fun q => e6 ((inr_u hi).mp q).2
        refine ⟨(s.1, s.2), ?_, by rw [show 16 + (i + 1) = (16 + i) + 1 from rfl, cnt_s, if_neg e]; dsimp only; omega, fun x hx hxr => ?_⟩
        · try dsimp only
          rw [p10_plain_L198, p10_plain_L198_B, if_neg (nI_ge hi (by omega)), O_level W G hi]
          simp only [ob]
          rw [if_neg (fun q => e6 ((nI_eq (by omega) (by omega)).mp q))]
          simp only [lb]
          rw [n1, nI_add]
        · by_cases e5 : x = 16 + i
          · rw [e5] at hxr; exact absurd hxr e
          · exact h2 x (by omega) hxr) FU 0 (cnt (inr n u a b g r) 16, N0) (Nat.zero_le _) (by show u - 0 < 1024; omega) ⟨rfl, fun x hx hxr => h0 x (by omega) hxr⟩
  have hc28 : cnt (inr n u a b g r) 28 = cnt (inr n u a b g r) (16 + u) := cnt_ext0 (by omega) fun i h1 h2 => by
    rw [show i = 16 + (i - 16) by omega]; exact inr_uout (by omega)
  refine ⟨s1.2, ?_, fun x hx hxr => ?_⟩
  · unfold sz
    rw [hc28, ← q1]; exact e1
  · by_cases e3 : x < 16 + u
    · exact q2 x e3 hxr
    · rw [show x = 16 + (x - 16) by omega, inr_uout (by omega)] at hxr
      cases hxr
theorem O_copyRow {r c : Nat} (hr : r < 16) (hc : c ≤ 28) {l : Nat → Nat} (hl : l r = c) {o : Nat → Nat → Int32} :
    ∃ od', p10_plain_L255 N0 l (r + 1) (nI r) (nI c) FU (nI 0) o = some od' ∧ (∀ k, k < c → od' r k = N0 k) ∧ ∀ r', r' ≠ r → od' r' = o r' := by
  obtain ⟨s1, e1, q1, q2⟩ := loop_all (fun k i (s : Nat → Nat → Int32) => p10_plain_L255 N0 l (r + 1) (nI r) (nI c) k (nI i) s) c
    (fun i s => (∀ k, k < i → s r k = N0 k) ∧ ∀ r', r' ≠ r → s r' = o r')
    (fun (s : Nat → Nat → Int32) => (∀ k, k < c → s r k = N0 k) ∧ ∀ r', r' ≠ r → s r' = o r') (by
      intro k s hs
      refine ⟨s, ?_, hs⟩
      try dsimp only
      rw [p10_plain_L255, p10_plain_L255_B, if_pos (nI_le (Nat.le_refl _) (by omega))]) (by
      intro k i s hi hs
      refine ⟨upR s r (upd (s r) i (N0 i)), ?_, fun k hk => ?_, fun r' h => ?_⟩
      · try dsimp only
        rw [p10_plain_L255, p10_plain_L255_B, if_neg (nI_ge hi (by omega)), gd_in (by omega) (by omega), gd_in (by omega) (by omega), gd_in (by omega) (by omega), nI_clamp (by omega), hl, gd_in hi (by omega), nI_clamp (by omega)]
        simp only [lb]
        rw [n1, nI_add]
      · unfold upR
        rw [if_pos rfl]
        by_cases e : k = i
        · rw [e, upd_eq]
        · rw [upd_ne e]; exact hs.1 k (by omega)
      · unfold upR
        rw [if_neg h]; exact hs.2 r' h) FU 0 o (Nat.zero_le _) (by show c - 0 < 1024; omega) ⟨fun k hk => absurd hk (Nat.not_lt_zero _), fun _ _ => rfl⟩
  exact ⟨s1, e1, q1, q2⟩
theorem pbx_cnt (W : WF n u pr a b g) {r x : Nat} (h : inr n u a b g r x = true) : pbx n u a b g r (cnt (inr n u a b g r) x) = x := nth_cnt (inr_lt28 W h) h
theorem O_rows (W : WF n u pr a b g) (F : OF n u pr a b pn un nu) (G : OG n u a b g ge lv) :
    ∃ ln' od', p10_plain_L144 ge lv nu (nI n) (nI (rowsN g n)) un (nI u) FU (nI 0) ln 0 od = some (ln', rowsN g n, od') ∧ OO n u a b g (pbx n u a b g) ln' od' (rowsN g n) := by
  have h16 := rows16 W
  obtain ⟨s1, e1, q1, q2⟩ := loop_all (fun k i (s : (Nat → Nat) × (Nat → Nat → Int32)) => p10_plain_L144 ge lv nu (nI n) (nI (rowsN g n)) un (nI u) k (nI i) s.1 i s.2) (rowsN g n)
    (fun i s => ∀ r, r < i → s.1 r = sz n u a b g r ∧ ∀ k, k < sz n u a b g r → s.2 r k = nI (pbx n u a b g r k))
    (fun (z : (Nat → Nat) × Nat × (Nat → Nat → Int32)) => z.2.1 = rowsN g n ∧ OO n u a b g (pbx n u a b g) z.1 z.2.2 (rowsN g n)) (by
      intro k s hs
      refine ⟨(s.1, rowsN g n, s.2), ?_, rfl, rfl, hs⟩
      try dsimp only
      rw [p10_plain_L144, p10_plain_L144_B, if_pos (nI_le (Nat.le_refl _) (by omega))]) (by
      intro k i s hi hs
      obtain ⟨N1, e1, h1⟩ := O_layP (N0 := fun _ => nI 0) (u := u) (a := a) (b := b) W G.1 (r := i) (by omega)
      obtain ⟨N2, e2, h2⟩ := O_layU W F G (r := i) (by omega) h1
      have hsz := sz_le W (r := i)
      obtain ⟨od', e3, h3, h4⟩ := O_copyRow (N0 := N2) (r := i) (c := sz n u a b g i) (l := up1 s.1 i (sz n u a b g i)) (o := upR s.2 i (fun _ => nI 0)) (by omega) hsz (by unfold up1; rw [if_pos rfl])
      refine ⟨(up1 s.1 i (sz n u a b g i), od'), ?_, fun r hr => ?_⟩
      · try dsimp only
        rw [p10_plain_L144, p10_plain_L144_B, if_neg (nI_ge hi (by omega)), n0, e1]
        simp only [ob, uc2, p10_plain_J195]
        rw [n0, e2]
        simp only [uc2, p10_plain_J243]
        rw [gd_in (by omega) (by omega), nI_clamp (by omega)]
        simp only [lb]
        rw [gd_in (by omega) (by omega)]
        rw [ge_in (by omega), n0, e3]
        simp only [ob, p10_plain_J280, lb]
        rw [n1, nI_add]
      · dsimp only
        by_cases e : r = i
        · subst e
          refine ⟨by unfold up1; rw [if_pos rfl], fun k hk => ?_⟩
          rw [h3 k hk]
          have hp := nth_spec (f := inr n u a b g r) (N := 28) (k := k) hk
          have := h2 _ hp.1 hp.2.1
          rw [hp.2.2] at this
          exact this
        · refine ⟨?_, fun k hk => ?_⟩
          · unfold up1; rw [if_neg e]; exact (hs r (by omega)).1
          · rw [h4 r e]; unfold upR; rw [if_neg e]; exact (hs r (by omega)).2 k hk) FU 0 (ln, od) (Nat.zero_le _) (by show rowsN g n - 0 < 1024; omega) (fun r hr => absurd hr (Nat.not_lt_zero _))
  obtain ⟨z1, z2, z3⟩ := s1
  dsimp only at q1 q2
  subst q1
  exact ⟨z1, z3, e1, q2⟩
theorem O_plain (W : WF n u pr a b g) (F : OF n u pr a b pn un nu) :
    ∃ ge' lv' ln' od', p10_plain (nI n) (nI u) ge lv pn un nu ln od = some (ge', lv', ln', rowsN g n, od', nI (rowsN g n)) ∧ OG n u a b g ge' lv' ∧ OO n u a b g (pbx n u a b g) ln' od' (rowsN g n) := by
  have hn := W.n16
  have hu := W.u12
  have h16 := rows16 W
  have h28 : ∀ p, p < n → p10_plain_L28 (nI p) FU 0 = some () := by
    intro p hp
    obtain ⟨s, e, -⟩ := loop_all (fun k i (_ : Unit) => p10_plain_L28 (nI p) k (nI i)) 16 (fun _ _ => True) (fun _ => True) (by
      intro k s _
      refine ⟨(), ?_, trivial⟩
      try dsimp only
      rw [p10_plain_L28, p10_plain_L28_B, n16, if_pos (nI_le (Nat.le_refl _) (by omega))]) (by
      intro k i s hi _
      refine ⟨(), ?_, trivial⟩
      try dsimp only
      rw [p10_plain_L28, p10_plain_L28_B, n16, if_neg (nI_ge hi (by omega)), gd_in (by omega) (by omega), gd_in (by omega) (by omega)]
      simp only [lb]
      rw [n1, nI_add]) FU 0 () (Nat.zero_le _) (by show 16 - 0 < 1024; omega) trivial
    exact e
  obtain ⟨ge', e1, G1⟩ := loop_all (fun k i (s : Nat → Int32) => p10_plain_L7 nu pn (nI n) un k (nI i) s) n
    (fun i s => ∀ p, p < i → s p = nI (g p)) (fun (s : Nat → Int32) => ∀ p, p < n → s p = nI (g p)) (by
      intro k s hs
      refine ⟨s, ?_, hs⟩
      try dsimp only
      rw [p10_plain_L7, p10_plain_L7_B, if_pos (nI_le (Nat.le_refl _) (by omega))]) (by
      intro k i s hi hs
      refine ⟨upd s i (nI (g i)), ?_, fun p hp => ?_⟩
      · try dsimp only
        have hg := W.glt hi
        rw [p10_plain_L7, p10_plain_L7_B, if_neg (nI_ge hi (by omega)), O_finds W F 24 i hi (by omega)]
        simp only [ob]
        rw [gd_in (by omega) (by omega), nI_clamp (by omega)]
        simp only [lb]
        rw [h28 i hi]
        simp only [p10_plain_J51, lb]
        rw [n1, nI_add]
      · by_cases e : p = i
        · rw [e, upd_eq]
        · rw [upd_ne e]; exact hs p (by omega)) FU 0 ge (Nat.zero_le _) (by show n - 0 < 1024; omega) (fun p hp => absurd hp (Nat.not_lt_zero _))
  obtain ⟨lv', e2, G2⟩ := loop_all (fun k i (s : Nat → Int32) => p10_plain_L59 ge' nu un (nI u) k (nI i) s) u
    (fun i s => ∀ w, w < i → s w = nI (lw a b g w)) (fun (s : Nat → Int32) => ∀ w, w < u → s w = nI (lw a b g w)) (by
      intro k s hs
      refine ⟨s, ?_, hs⟩
      try dsimp only
      rw [p10_plain_L59, p10_plain_L59_B, if_pos (nI_le (Nat.le_refl _) (by omega))]) (by
      intro k i s hi hs
      obtain ⟨ha, hb, -⟩ := W.par hi
      have ga := W.glt ha
      have gb := W.glt hb
      refine ⟨upd s i (nI (lw a b g i)), ?_, fun w hw => ?_⟩
      · try dsimp only
        rw [p10_plain_L59, p10_plain_L59_B, if_neg (nI_ge hi (by omega)), F.2.1, gd_in (by omega) (by omega), gd_in hi (by omega), g03, nI_clamp (by omega), c0, c1, (F.2.2 i hi).1, (F.2.2 i hi).2, gd_in (by omega) (by omega), gd_in (by omega) (by omega), gd_in hi (by omega), g13, gd_in (by omega) (by omega), gd_in (by omega) (by omega), nI_clamp (by omega), nI_clamp (by omega), G1 _ ha, G1 _ hb, imax_nI (by omega) (by omega)]
        simp only [lb]
        rw [n1, nI_add]
        rfl
      · by_cases e : w = i
        · rw [e, upd_eq]
        · rw [upd_ne e]; exact hs w (by omega)) FU 0 lv (Nat.zero_le _) (by show u - 0 < 1024; omega) (fun w hw => absurd hw (Nat.not_lt_zero _))
  have G : OG n u a b g ge' lv' := ⟨G1, G2⟩
  obtain ⟨rr, e3, G3⟩ := loop_all (fun k i (s : Nat) => p10_plain_L110 ge' (nI n) k (nI i) (nI s)) n
    (fun i s => s = rowsN g i) (fun (s : Int32) => s = nI (rowsN g n)) (by
      intro k s hs
      refine ⟨nI s, ?_, by rw [hs]⟩
      try dsimp only
      rw [p10_plain_L110, p10_plain_L110_B, if_pos (nI_le (Nat.le_refl _) (by omega))]) (by
      intro k i s hi hs
      have hg := W.glt hi
      have hle : rowsN g i ≤ 16 := rowsN_le fun p hp => by have := W.glt (show p < n by omega); omega
      refine ⟨rowsN g (i + 1), ?_, rfl⟩
      try dsimp only
      rw [p10_plain_L110, p10_plain_L110_B, if_neg (nI_ge hi (by omega)), O_gen W G hi]
      simp only [ob, lb]
      rw [n1, nI_add, nI_add, imax_nI (by omega) (by omega), hs]
      rfl) FU 0 0 (Nat.zero_le _) (by show n - 0 < 1024; omega) rfl
  obtain ⟨ln', od', e4, O⟩ := O_rows (ln := ln) (od := od) W F G
  refine ⟨ge', lv', ln', od', ?_, G, O⟩
  try dsimp only at e1
  try dsimp only at e2
  try dsimp only at e3
  unfold p10_plain
  rw [n0, e1]
  simp only [ob, p10_plain_J57]
  rw [n0, e2]
  simp only [p10_plain_J108]
  rw [n0, e3, G3]
  simp only [ob, p10_plain_J142]
  rw [n0, e4]
  simp only [ob, uc3, p10_plain_J286]
end OWN4
