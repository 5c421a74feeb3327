/-! the class's rows -/
def RSX (n u : Nat) (a b g : Nat → Nat) (rs : Nat → Int32) : Prop := ∀ r, r ≤ rowsN g n → rs r = nI (st n u a b g r)
def ORX (n u : Nat) (a b g : Nat → Nat) (bx : Nat → Nat → Nat) (od : Nat → Int32) : Prop := ∀ r k, r < rowsN g n → k < sz n u a b g r → od (st n u a b g r + k) = nI (bx r k)
def PLX (n u : Nat) (a b g : Nat → Nat) (pl : Nat → Nat) (po : Nat → Int32) : Prop := ∀ x, x < 28 → th n u a b g x = true → po x = nI (pl x)
def FBX (u : Nat) (a b g : Nat → Nat) (fb sb : Nat → Int32) : Prop := ∀ w, w < u → fb w = nI (bxa a b g w) ∧ sb w = nI (bxb a b g w)
def RX (n u : Nat) (a b g : Nat → Nat) (pl : Nat → Nat) (bx : Nat → Nat → Nat) (od rs po fb sb : Nat → Int32) : Prop :=
  RSX n u a b g rs ∧ ORX n u a b g bx od ∧ PLX n u a b g pl po ∧ FBX u a b g fb sb
theorem cnt_ext0 {f : Nat → Bool} {n m : Nat} (hm : n ≤ m) (h : ∀ i, n ≤ i → i < m → f i = false) : cnt f m = cnt f n := by
  rw [cnt_sm, cnt_sm]
  exact sm_ext0 hm fun i h1 h2 => by rw [h i h1 h2]; rfl
section XROWS
variable {n u : Nat} {pr a b g : Nat → Nat} {an : Nat → Nat → Bool} {pu fp sp ge am lv rf od rs po fb sb : Nat → Int32} {pl : Nat → Nat} {bx : Nat → Nat → Nat}
theorem X7_boxCountOf (W : WF n u pr a b g) (R : RSX n u a b g rs) {r : Nat} (hr : r < rowsN g n) : p7_boxCountOf rs (nI r) = nI (sz n u a b g r) := by
  have hR := rows16 W
  unfold p7_boxCountOf
  rw [n1, nI_add, at_in (by omega) (by omega), at_in (by omega) (by omega), R _ (by omega), R _ (by omega), nI_sub (by rw [st_s]; omega), st_s]
  congr 1
  omega
theorem X7_boxAt (W : WF n u pr a b g) (R : RSX n u a b g rs) (O : ORX n u a b g bx od) {r k : Nat} (hr : r < rowsN g n) (hk : k < sz n u a b g r) : p7_boxAt od rs (nI r) (nI k) = nI (bx r k) := by
  have hR := rows16 W
  have := place_lt W hr hk
  unfold p7_boxAt
  rw [at_in (by omega) (by omega), R _ (by omega), nI_add, at_in this (by omega), O r k hr hk]
theorem X7_boxCount (W : WF n u pr a b g) (R : RSX n u a b g rs) : p7_boxCount (nI (rowsN g n)) rs = nI (cnt (th n u a b g) 28) := by
  have hR := rows16 W
  unfold p7_boxCount
  rw [at_in (by omega) (by omega), R _ (Nat.le_refl _), st_all W]
theorem nI_rN {p k : Nat} (hp : p < 16) (hk : k ≤ 16) : nI p = rN k ↔ k = p := by
  by_cases h : k < 16
  · rw [rN_in h, nI_eq (by omega) (by omega)]; omega
  · rw [rN_out h]; exact ⟨fun q => absurd q (nI_m1 (by omega)), fun q => by omega⟩
theorem X7_noteBoxes (W : WF n u pr a b g) (F : FX n u pr a b pu fp sp) (hr : ∀ w, w < u → rf w = rN (rw_ a b g w)) : ∃ fb' sb', p7_noteBoxesOfUnions (nI u) fp rf sp fb sb = some (fb', sb') ∧ FBX u a b g fb' sb' := by
  have hn := W.n16
  have hu := W.u12
  obtain ⟨s1, e1, f1⟩ := loop_all (fun k i (s : (Nat → Int32) × (Nat → Int32)) => p7_noteBoxesOfUnions_L2 fp rf sp (nI u) k (nI i) s.1 s.2) u
    (fun i s => ∀ w, w < i → s.1 w = nI (bxa a b g w) ∧ s.2 w = nI (bxb a b g w)) (fun s => ∀ w, w < u → s.1 w = nI (bxa a b g w) ∧ s.2 w = nI (bxb a b g w)) (by
      intro k s hs
      refine ⟨s, ?_, hs⟩
      try dsimp only
      rw [p7_noteBoxesOfUnions_L2, p7_noteBoxesOfUnions_L2_B, if_pos (nI_le (Nat.le_refl _) (by omega))]) (by
      intro k i s hi hs
      obtain ⟨h1, h2, h3⟩ := W.par hi
      have hle := rw_le W hi
      refine ⟨(upd s.1 i (nI (bxa a b g i)), upd s.2 i (nI (bxb a b g i))), ?_, fun w hw => ?_⟩
      · try dsimp only
        rw [p7_noteBoxesOfUnions_L2, p7_noteBoxesOfUnions_L2_B, if_neg (nI_ge hi (by omega)), F.at_fp hu hi, F.at_sp hu hi, at_in (i := i) (f := rf) (by omega) (by omega), hr i hi]
        simp only [lb]
        have hJ : ∀ fb2, p7_noteBoxesOfUnions_J71 (p7_noteBoxesOfUnions_L2 fp rf sp (nI u) k) s.2 (nI i) (rN (rw_ a b g i)) (nI (b i)) fb2 = p7_noteBoxesOfUnions_L2 fp rf sp (nI u) k (nI (i + 1)) fb2 (upd s.2 i (nI (bxb a b g i))) := by
          intro fb2
          unfold p7_noteBoxesOfUnions_J71 bxb
          simp only [lb]
          by_cases e : rw_ a b g i = b i
          · rw [if_pos ((nI_rN (by omega) hle).mpr e), if_pos e, n16, nI_add, put_in (by omega) (by omega), n1, nI_add]
          · rw [if_neg (fun q => e ((nI_rN (by omega) hle).mp q)), if_neg e, put_in (by omega) (by omega), n1, nI_add]
        rw [hJ, hJ]
        unfold bxa
        by_cases e : rw_ a b g i = a i
        · rw [if_pos ((nI_rN (by omega) hle).mpr e), if_pos e, n16, nI_add, put_in (by omega) (by omega)]
        · rw [if_neg (fun q => e ((nI_rN (by omega) hle).mp q)), if_neg e, put_in (by omega) (by omega)]
      · dsimp only
        by_cases e : w = i
        · rw [e, upd_eq, upd_eq]; exact ⟨rfl, rfl⟩
        · rw [upd_ne e, upd_ne e]; exact hs w (by omega)) FU 0 (fb, sb) (Nat.zero_le _) (by show u - 0 < 1024; omega) (fun w hw => absurd hw (Nat.not_lt_zero _))
  try dsimp only at e1
  refine ⟨s1.1, s1.2, ?_, f1⟩
  unfold p7_noteBoxesOfUnions
  rw [n0, e1]
  rfl
theorem inr_p {r x : Nat} (h : x < n) (hn : n ≤ 16) : inr n u a b g r x = true ↔ g x = r := by
  rw [inr_iff, th_p (by omega), rb_p (by omega)]
  simp [h]
theorem inr_pout {r x : Nat} (h : n ≤ x) (hx : x < 16) : inr n u a b g r x = false := by
  unfold inr
  rw [th_p hx, decide_eq_false (by omega)]; rfl
theorem inr_uout {r w : Nat} (h : u ≤ w) : inr n u a b g r (16 + w) = false := by
  unfold inr
  rw [th_u, decide_eq_false (by omega)]; rfl
theorem inr_u {r w : Nat} (h : w < u) : inr n u a b g r (16 + w) = true ↔ rw_ a b g w < 16 ∧ lw a b g w = r := by
  rw [inr_iff, th_u, rb_u]
  simp [h]
theorem X7_layRow (W : WF n u pr a b g) (R : RF n u a b g an ge am lv rf) {r : Nat} (hr : r < rowsN g n) : ∃ od', p7_layRow (nI n) (nI u) ge lv rf od (nI r) (nI (st n u a b g r)) = some (nI (st n u a b g (r + 1)), od') ∧
    (∀ x, x < 28 → inr n u a b g r x = true → od' (st n u a b g r + cnt (inr n u a b g r) x) = nI x) ∧ ∀ k, k < st n u a b g r → od' k = od k := by
  have hn := W.n16
  have hu := W.u12
  have hR := rows16 W
  have hpl : ∀ x, x < 28 → inr n u a b g r x = true → st n u a b g r + cnt (inr n u a b g r) x < 28 := fun x hx h => place_lt W hr (cnt_lt hx h)
  have hst := st_le W (r := r) (by omega)
  have hcl : ∀ i, cnt (inr n u a b g r) i ≤ i := fun i => cnt_le _ i
  obtain ⟨s1, e1, q1, q2, q3⟩ := loop_all (fun k i (s : Nat × (Nat → Int32)) => p7_layRow_L5 ge (nI n) (nI r) k (nI s.1) (nI i) s.2) n
    (fun i s => s.1 = st n u a b g r + cnt (inr n u a b g r) i ∧ (∀ x, x < i → inr n u a b g r x = true → s.2 (st n u a b g r + cnt (inr n u a b g r) x) = nI x) ∧ ∀ k, k < st n u a b g r → s.2 k = od k)
    (fun (s : Int32 × (Nat → Int32)) => s.1 = nI (st n u a b g r + cnt (inr n u a b g r) n) ∧ (∀ x, x < n → inr n u a b g r x = true → s.2 (st n u a b g r + cnt (inr n u a b g r) x) = nI x) ∧ ∀ k, k < st n u a b g r → s.2 k = od k) (by
      intro k s hs
      refine ⟨(nI s.1, s.2), ?_, by rw [hs.1], hs.2⟩
      try dsimp only
      rw [p7_layRow_L5, p7_layRow_L5_B, if_pos (nI_le (Nat.le_refl _) (by omega))]) (by
      intro k i s hi hs
      obtain ⟨h1, h2, h3⟩ := hs
      have hg := W.glt hi
      have hc := hcl i
      by_cases e : g i = r
      · have hin : inr n u a b g r i = true := (inr_p hi hn).mpr e
        have hp := hpl i (by omega) hin
        refine ⟨(s.1 + 1, upd s.2 s.1 (nI i)), ?_, ?_, fun x hx hxr => ?_, fun k hk => ?_⟩
        · try dsimp only
          rw [p7_layRow_L5, p7_layRow_L5_B, if_neg (nI_ge hi (by omega)), at_in (by omega) (by omega), (R.1 i hi).1, e, if_pos rfl, put_in (by omega) (by omega)]
          simp only [lb]
          rw [n1, nI_add, nI_add]
        · rw [cnt_s, if_pos hin]; dsimp only; omega
        · dsimp only
          by_cases e2 : x = i
          · rw [e2, h1, upd_eq]
          · have : cnt (inr n u a b g r) x < cnt (inr n u a b g r) i := cnt_lt (by omega) hxr
            rw [upd_ne (by omega)]; exact h2 x (by omega) hxr
        · dsimp only
          rw [upd_ne (by omega)]; exact h3 k hk
      · have hin : ¬ inr n u a b g r i = true := fun q => e ((inr_p hi hn).mp q)
        refine ⟨(s.1, s.2), ?_, by rw [cnt_s, if_neg hin]; dsimp only; omega, fun x hx hxr => ?_, h3⟩
        · try dsimp only
          rw [p7_layRow_L5, p7_layRow_L5_B, if_neg (nI_ge hi (by omega)), at_in (by omega) (by omega), (R.1 i hi).1, if_neg (fun q => e ((nI_eq (by omega) (by omega)).mp q))]
          simp only [lb]
          rw [n1, nI_add]
        · by_cases e2 : x = i
          · rw [e2] at hxr; exact absurd hxr hin
          · exact h2 x (by omega) hxr) FU 0 (st n u a b g r, od) (Nat.zero_le _) (by show n - 0 < 1024; omega) ⟨rfl, fun x hx => absurd hx (Nat.not_lt_zero _), fun _ _ => rfl⟩
  have hc16 : cnt (inr n u a b g r) 16 = cnt (inr n u a b g r) n := cnt_ext0 hn fun i h1 h2 => inr_pout h1 h2
  have hc28 : cnt (inr n u a b g r) 28 = cnt (inr n u a b g r) (16 + u) := cnt_ext0 (by omega) fun i h1 h2 => by
    rw [show i = 16 + (i - 16) by omega]; exact inr_uout (by omega)
  have hst0 : (st n u a b g r + cnt (inr n u a b g r) n = st n u a b g r + cnt (inr n u a b g r) (16 + 0)) ∧ (∀ x, x < 16 + 0 → inr n u a b g r x = true → s1.2 (st n u a b g r + cnt (inr n u a b g r) x) = nI x) ∧ ∀ k, k < st n u a b g r → s1.2 k = od k := by
    refine ⟨by rw [Nat.add_zero, hc16], fun x hx hxr => ?_, q3⟩
    by_cases e3 : x < n
    · exact q2 x e3 hxr
    · rw [inr_pout (by omega) (by omega)] at hxr
      cases hxr
  obtain ⟨s2, e2, r1, r2, r3⟩ := loop_all (fun k i (s : Nat × (Nat → Int32)) => p7_layRow_L55 lv rf (nI u) (nI r) k (nI s.1) (nI i) s.2) u
    (fun i s => s.1 = st n u a b g r + cnt (inr n u a b g r) (16 + i) ∧ (∀ x, x < 16 + i → inr n u a b g r x = true → s.2 (st n u a b g r + cnt (inr n u a b g r) x) = nI x) ∧ ∀ k, k < st n u a b g r → s.2 k = od k)
    (fun (s : Int32 × (Nat → Int32)) => s.1 = nI (st n u a b g r + cnt (inr n u a b g r) (16 + u)) ∧ (∀ x, x < 16 + u → inr n u a b g r x = true → s.2 (st n u a b g r + cnt (inr n u a b g r) x) = nI x) ∧ ∀ k, k < st n u a b g r → s.2 k = od k) (by
      intro k s hs
      refine ⟨(nI s.1, s.2), ?_, by rw [hs.1], hs.2⟩
      try dsimp only
      rw [p7_layRow_L55, p7_layRow_L55_B, if_pos (nI_le (Nat.le_refl _) (by omega))]) (by
      intro k i s hi hs
      obtain ⟨h1, h2, h3⟩ := hs
      have hl := lw_lt W hi
      have hc := hcl (16 + i)
      by_cases e : inr n u a b g r (16 + i) = true
      · obtain ⟨e3, e4⟩ := (inr_u hi).mp e
        have hp := hpl (16 + i) (by omega) e
        refine ⟨(s.1 + 1, upd s.2 s.1 (nI (16 + i))), ?_, ?_, fun x hx hxr => ?_, fun k hk => ?_⟩
        · try dsimp only
          rw [p7_layRow_L55, p7_layRow_L55_B, if_neg (nI_ge hi (by omega)), at_in (by omega) (by omega), at_in (by omega) (by omega), (R.2 i hi).1, (R.2 i hi).2, e4, if_pos rfl, if_neg (fun q => (rN_m1.mp q) e3), n16, nI_add, put_in (by omega) (by omega)]
          simp only [lb]
          rw [n1, nI_add, nI_add]
        · rw [show 16 + (i + 1) = (16 + i) + 1 from rfl, cnt_s, if_pos e]; dsimp only; omega
        · dsimp only
          by_cases e5 : x = 16 + i
          · rw [e5, h1, upd_eq]
          · have : cnt (inr n u a b g r) x < cnt (inr n u a b g r) (16 + i) := cnt_lt (by omega) hxr
            rw [upd_ne (by omega)]; exact h2 x (by omega) hxr
        · dsimp only
          rw [upd_ne (by omega)]; exact h3 k hk
      · refine ⟨(s.1, s.2), ?_, by rw [show 16 + (i + 1) = (16 + i) + 1 from rfl, cnt_s, if_neg e]; dsimp only; omega, fun x hx hxr => ?_, h3⟩
        · try dsimp only
          rw [p7_layRow_L55, p7_layRow_L55_B, if_neg (nI_ge hi (by omega)), at_in (by omega) (by omega), at_in (by omega) (by omega), (R.2 i hi).1, (R.2 i hi).2]
          simp only [lb]
          by_cases e6 : lw a b g i = r
          · rw [if_pos (by rw [e6]), if_pos (rN_m1.mpr fun q => e ((inr_u hi).mpr ⟨q, e6⟩)), n1, nI_add]
          · rw [if_neg (fun q => e6 ((nI_eq (by omega) (by omega)).mp q)), n1, nI_add]
        · by_cases e5 : x = 16 + i
          · rw [e5] at hxr; exact absurd hxr e
          · exact h2 x (by omega) hxr) FU 0 (st n u a b g r + cnt (inr n u a b g r) n, s1.2) (Nat.zero_le _) (by show u - 0 < 1024; omega) hst0
  try dsimp only at e1
  try dsimp only at e2
  refine ⟨s2.2, ?_, fun x hx hxr => ?_, r3⟩
  · unfold p7_layRow
    rw [n0, e1]
    simp only [ob, uc2]
    unfold p7_layRow_J52
    rw [n0, q1, e2]
    simp only [ob, uc2]
    unfold p7_layRow_J121
    have h1 : s2.1 = nI (st n u a b g (r + 1)) := by
      rw [r1, st_s, ← hc28]
      rfl
    rw [h1]
  · by_cases e : x < 16 + u
    · exact r2 x e hxr
    · rw [show x = 16 + (x - 16) by omega, inr_uout (by omega)] at hxr; cases hxr
theorem X7_notePlaces (W : WF n u pr a b g) (R : RSX n u a b g rs) (O : ORX n u a b g bx od) (L : LAY n u a b g pl bx) : ∃ po', p7_notePlaces (nI (rowsN g n)) od po rs = some po' ∧ PLX n u a b g pl po' := by
  have hR := rows16 W
  have hrow : ∀ r, r < rowsN g n → ∀ p1 : Nat → Int32, ∃ p2, p7_notePlaces_L15 od rs (nI r) FU (nI 0) p1 = some p2 ∧ (∀ x, x < 28 → th n u a b g x = true → rb a b g x = r → p2 x = nI (pl x)) ∧ ∀ x, x < 28 → th n u a b g x = true → rb a b g x ≠ r → p2 x = p1 x := by
    intro r hr p1
    have hsz := sz_le W (r := r)
    obtain ⟨s1, e1, q1, q2⟩ := loop_all (fun k i (s : Nat → Int32) => p7_notePlaces_L15 od rs (nI r) k (nI i) s) (sz n u a b g r)
      (fun i s => (∀ x, x < 28 → th n u a b g x = true → rb a b g x = r → pl x < i → s x = nI (pl x)) ∧ ∀ x, x < 28 → th n u a b g x = true → rb a b g x ≠ r → s x = p1 x)
      (fun s => (∀ x, x < 28 → th n u a b g x = true → rb a b g x = r → s x = nI (pl x)) ∧ ∀ x, x < 28 → th n u a b g x = true → rb a b g x ≠ r → s x = p1 x) (by
        intro k s hs
        refine ⟨s, ?_, fun x hx ht hxr => hs.1 x hx ht hxr (by have := (L.1 x hx ht).1; rw [hxr] at this; exact this), hs.2⟩
        try dsimp only
        rw [p7_notePlaces_L15, p7_notePlaces_L15_B, X7_boxCountOf W R hr, if_pos (nI_le (Nat.le_refl _) (by omega))]) (by
        intro k i s hi hs
        obtain ⟨k1, k2, k3, k4⟩ := L.2 r i hi
        refine ⟨upd s (bx r i) (nI i), ?_, fun x hx ht hxr hpx => ?_, fun x hx ht hxr => ?_⟩
        · try dsimp only
          rw [p7_notePlaces_L15, p7_notePlaces_L15_B, X7_boxCountOf W R hr, if_neg (nI_ge hi (by omega)), X7_boxAt W R O hr hi, put_in (by omega) (by omega)]
          simp only [lb]
          rw [n1, nI_add]
        · by_cases e : x = bx r i
          · rw [e, upd_eq, k4]
          · rw [upd_ne e]
            refine hs.1 x hx ht hxr ?_
            have : pl x ≠ i := fun q => e (by rw [← (L.1 x hx ht).2, hxr, q])
            omega
        · rw [upd_ne (fun q => hxr (by rw [q]; exact k3))]; exact hs.2 x hx ht hxr) FU 0 p1 (Nat.zero_le _) (by show sz n u a b g r - 0 < 1024; omega) ⟨fun x _ _ _ h => absurd h (Nat.not_lt_zero _), fun _ _ _ _ => rfl⟩
    exact ⟨s1, e1, q1, q2⟩
  obtain ⟨s1, e1, f1⟩ := loop_all (fun k i (s : Nat → Int32) => p7_notePlaces_L2 (nI (rowsN g n)) od rs k (nI i) s) (rowsN g n)
    (fun i s => ∀ x, x < 28 → th n u a b g x = true → rb a b g x < i → s x = nI (pl x)) (fun s => PLX n u a b g pl s) (by
      intro k s hs
      refine ⟨s, ?_, fun x hx ht => hs x hx ht (th_row W ht)⟩
      try dsimp only
      rw [p7_notePlaces_L2, p7_notePlaces_L2_B, if_pos (nI_le (Nat.le_refl _) (by omega))]) (by
      intro k i s hi hs
      obtain ⟨p2, r1, r2, r3⟩ := hrow i hi s
      refine ⟨p2, ?_, fun x hx ht hxr => ?_⟩
      · try dsimp only
        rw [p7_notePlaces_L2, p7_notePlaces_L2_B, if_neg (nI_ge hi (by omega)), n0, r1]
        simp only [ob]
        unfold p7_notePlaces_J44
        simp only [lb]
        rw [n1, nI_add]
      · by_cases e : rb a b g x = i
        · exact r2 x hx ht e
        · rw [r3 x hx ht e]; exact hs x hx ht (by omega)) FU 0 po (Nat.zero_le _) (by show rowsN g n - 0 < 1024; omega) (fun x _ _ h => absurd h (Nat.not_lt_zero _))
  try dsimp only at e1
  refine ⟨s1, ?_, f1⟩
  unfold p7_notePlaces
  rw [n0, e1]
  rfl
theorem X7_layPlain (W : WF n u pr a b g) (F : FX n u pr a b pu fp sp) (R : RF n u a b g an ge am lv rf) :
    ∃ fb' od' po' rs' sb', p7_layPlain (nI n) (nI u) (nI (rowsN g n)) fp ge lv rf sp fb od po rs sb = some (fb', od', po', rs', sb') ∧ RX n u a b g (ppl n u a b g) (pbx n u a b g) od' rs' po' fb' sb' := by
  have hR := rows16 W
  obtain ⟨fb1, sb1, e1, f1⟩ := X7_noteBoxes (fb := fb) (sb := sb) W F (fun w hw => (R.2 w hw).2)
  obtain ⟨s1, e2, q1, q2, q3⟩ := loop_all (fun k i (s : Nat × (Nat → Int32) × (Nat → Int32)) => p7_layPlain_L8 ge lv (nI n) rf (nI (rowsN g n)) (nI u) k (nI s.1) (nI i) s.2.1 s.2.2) (rowsN g n)
    (fun i s => s.1 = st n u a b g i ∧ (∀ x, x < 28 → th n u a b g x = true → rb a b g x < i → s.2.1 (st n u a b g (rb a b g x) + ppl n u a b g x) = nI x) ∧ ∀ r, r < i → s.2.2 r = nI (st n u a b g r))
    (fun (s : Int32 × (Nat → Int32) × (Nat → Int32)) => s.1 = nI (st n u a b g (rowsN g n)) ∧ (∀ x, x < 28 → th n u a b g x = true → s.2.1 (st n u a b g (rb a b g x) + ppl n u a b g x) = nI x) ∧ ∀ r, r < rowsN g n → s.2.2 r = nI (st n u a b g r)) (by
      intro k s hs
      refine ⟨(nI s.1, s.2.1, s.2.2), ?_, by rw [hs.1], fun x hx ht => hs.2.1 x hx ht (th_row W ht), hs.2.2⟩
      try dsimp only
      rw [p7_layPlain_L8, p7_layPlain_L8_B, if_pos (nI_le (Nat.le_refl _) (by omega))]) (by
      intro k i s hi hs
      obtain ⟨h1, h2, h3⟩ := hs
      obtain ⟨od2, r1, r2, r3⟩ := X7_layRow (od := s.2.1) W R hi
      refine ⟨(st n u a b g (i + 1), od2, upd s.2.2 i (nI (st n u a b g i))), ?_, rfl, fun x hx ht hxr => ?_, fun r hr => ?_⟩
      · try dsimp only
        rw [p7_layPlain_L8, p7_layPlain_L8_B, if_neg (nI_ge hi (by omega)), h1, put_in (by omega) (by omega), r1]
        simp only [lb, ob, uc2]
        rw [n1, nI_add]
      · dsimp only
        by_cases e : rb a b g x = i
        · have := r2 x hx (by rw [← e]; exact inr_self ht)
          rw [e]
          unfold ppl
          rw [e]
          exact this
        · have h4 : ppl n u a b g x < sz n u a b g (rb a b g x) := (LAY.plain.1 x hx ht).1
          have h5 : st n u a b g (rb a b g x + 1) ≤ st n u a b g i := sm_mono (by omega)
          rw [st_s] at h5
          rw [r3 _ (by omega)]
          exact h2 x hx ht (by omega)
      · dsimp only
        by_cases e : r = i
        · rw [e, upd_eq]
        · rw [upd_ne e]; exact h3 r (by omega)) FU 0 (0, od, rs) (Nat.zero_le _) (by show rowsN g n - 0 < 1024; omega) ⟨rfl, fun x _ _ h => absurd h (Nat.not_lt_zero _), fun r h => absurd h (Nat.not_lt_zero _)⟩
  try dsimp only at e2
  have hRS : RSX n u a b g (upd s1.2.2 (rowsN g n) s1.1) := fun r hr => by
    by_cases e : r = rowsN g n
    · rw [e, upd_eq, q1]
    · rw [upd_ne e]; exact q3 r (by omega)
  have hO : ORX n u a b g (pbx n u a b g) s1.2.1 := fun r k hr hk => by
    obtain ⟨k1, k2, k3, k4⟩ := LAY.plain.2 r k hk
    have := q2 _ k1 k2
    rw [k3, k4] at this
    exact this
  obtain ⟨po1, e3, f3⟩ := X7_notePlaces (po := po) W hRS hO LAY.plain
  refine ⟨fb1, s1.2.1, po1, upd s1.2.2 (rowsN g n) s1.1, sb1, ?_, hRS, hO, f3, f1⟩
  unfold p7_layPlain
  rw [e1]
  simp only [ob, uc2]
  rw [n0, e2]
  simp only [uc3]
  unfold p7_layPlain_J41
  rw [put_in (by omega) (by omega)]
  simp only [lb]
  rw [e3]
  rfl
end XROWS
