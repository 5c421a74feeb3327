/-! the whole text, read -/
theorem cw_facts : (∀ j, j < 6 → kd (cw 2 j) = 1 ∧ cw 0 j = cw 2 j) ∧ cw 2 6 = 32 ∧ (∀ j, j < 5 → kd (cw 4 j) = 1 ∧ cw 1 j = cw 4 j) ∧ cw 4 5 = 32 ∧ txl 0 = 6 ∧ txl 1 = 5 ∧ txl 2 = 7 ∧ txl 4 = 6 := by decide
section YREA
variable {T : List Nat} {bs : Nat → Int32} {n u : Nat} {lc yr pr a b g uy : Nat → Nat} {errS : Int32}
theorem tp_split : ∀ k m, m < k → ∃ R, tpL lc yr k = tpL lc yr m ++ (ptL lc yr m ++ R) := by
  intro k
  induction k with
  | zero => intro m h; omega
  | succ k ih =>
    intro m h
    by_cases e : m = k
    · subst e; exact ⟨[], by rw [List.append_nil]; rfl⟩
    · obtain ⟨R, hR⟩ := ih m (by omega)
      exact ⟨R ++ ptL lc yr k, by rw [show tpL lc yr (k + 1) = tpL lc yr k ++ ptL lc yr k from rfl, hR]; simp only [List.append_assoc]⟩
theorem tu_split : ∀ k m, m < k → ∃ R, tuL n lc pr a b uy k = tuL n lc pr a b uy m ++ (utL n lc pr a b uy m ++ R) := by
  intro k
  induction k with
  | zero => intro m h; omega
  | succ k ih =>
    intro m h
    by_cases e : m = k
    · subst e; exact ⟨[], by rw [List.append_nil]; rfl⟩
    · obtain ⟨R, hR⟩ := ih m (by omega)
      exact ⟨R ++ utL n lc pr a b uy k, by rw [show tuL n lc pr a b uy (k + 1) = tuL n lc pr a b uy k ++ utL n lc pr a b uy k from rfl, hR]; simp only [List.append_assoc]⟩
theorem AT_p {m : Nat} (hm : m < n) : AT (tpL lc yr n ++ tuL n lc pr a b uy u) (tpL lc yr m).length (ptL lc yr m) := by
  obtain ⟨R, hR⟩ := tp_split (lc := lc) (yr := yr) n m hm
  rw [hR, List.append_assoc, List.append_assoc]
  exact AT.mk
theorem AT_u {w : Nat} (hw : w < u) : AT (tpL lc yr n ++ tuL n lc pr a b uy u) (tpL lc yr n ++ tuL n lc pr a b uy w).length (utL n lc pr a b uy w) := by
  obtain ⟨R, hR⟩ := tu_split (n := n) (lc := lc) (pr := pr) (a := a) (b := b) (uy := uy) u w hw
  rw [hR, ← List.append_assoc]
  exact AT.mk
theorem NX_p (H : BFT T bs) {P m : Nat} (S : AT T P (ptL lc yr m)) : NXT T bs P (nI 1) (nI P) (nI (P + 6)) ∧ p3_isWord (nI 1) (nI P) (nI (P + 6)) bs 0 = some true := by
  obtain ⟨f1, f2, f3, f4, f5, f6, f7, f8⟩ := cw_facts
  unfold ptL at S
  have hw := S.app.1.app.1.app.1
  unfold wdL at hw
  obtain ⟨q1, q2⟩ := hw.sq
  rw [f7] at q1 q2
  refine ⟨fun kind start value => ?_, R_isW H (by omega) (by rw [f5]) (by omega) (fun j hj => by rw [f5] at hj; rw [q2 j (by omega), (f1 j hj).2])⟩
  obtain ⟨-, v, e, -⟩ := K_tok H (i := P) (s := P) (e := P + 6) (k := 1) (Or.inl rfl) (Nat.le_refl _) (by omega) (by omega) (fun j j1 j2 => by omega) (fun j j1 j2 => by
    have := q2 (j - P) (by omega)
    rw [show P + (j - P) = j by omega] at this
    rw [this]
    exact (f1 _ (by omega)).1) (fun _ => by rw [q2 6 (by omega), f2]; decide) kind start value
  exact ⟨v, e⟩
theorem NX_u (H : BFT T bs) {P w : Nat} (S : AT T P (utL n lc pr a b uy w)) : NXT T bs P (nI 1) (nI P) (nI (P + 5)) ∧ p3_isWord (nI 1) (nI P) (nI (P + 5)) bs 0 = some false ∧ p3_isWord (nI 1) (nI P) (nI (P + 5)) bs 1 = some true := by
  obtain ⟨f1, f2, f3, f4, f5, f6, f7, f8⟩ := cw_facts
  have hT := H.1
  unfold utL at S
  have hw := S.app.1.app.1.app.1.app.1.app.1.app.1
  unfold wdL at hw
  obtain ⟨q1, q2⟩ := hw.sq
  rw [f8] at q1 q2
  refine ⟨fun kind start value => ?_, R_notW (by omega) (by omega) (by rw [f5]; omega), R_isW H (by omega) (by rw [f6]) (by omega) (fun j hj => by rw [f6] at hj; rw [q2 j (by omega), (f3 j hj).2])⟩
  obtain ⟨-, v, e, -⟩ := K_tok H (i := P) (s := P) (e := P + 5) (k := 1) (Or.inl rfl) (Nat.le_refl _) (by omega) (by omega) (fun j j1 j2 => by omega) (fun j j1 j2 => by
    have := q2 (j - P) (by omega)
    rw [show P + (j - P) = j by omega] at this
    rw [this]
    exact (f3 _ (by omega)).1) (fun _ => by rw [q2 5 (by omega), f4]; decide) kind start value
  exact ⟨v, e⟩
/-- the tokens at which sentences begin -/
def tkU (n u : Nat) (lc yr pr a b uy : Nat → Nat) (w : Nat) : Int32 × Int32 × Int32 :=
  if w < u then (nI 1, nI (tpL lc yr n ++ tuL n lc pr a b uy w).length, nI ((tpL lc yr n ++ tuL n lc pr a b uy w).length + 5)) else (nI 0, nI (tpL lc yr n ++ tuL n lc pr a b uy u).length, nI (tpL lc yr n ++ tuL n lc pr a b uy u).length)
def tkP (n u : Nat) (lc yr pr a b uy : Nat → Nat) (m : Nat) : Int32 × Int32 × Int32 :=
  if m < n then (nI 1, nI (tpL lc yr m).length, nI ((tpL lc yr m).length + 6)) else tkU n u lc yr pr a b uy 0
theorem NX_tkU (H : BFT (tpL lc yr n ++ tuL n lc pr a b uy u) bs) {w : Nat} (hw : w ≤ u) : NXT (tpL lc yr n ++ tuL n lc pr a b uy u) bs (tpL lc yr n ++ tuL n lc pr a b uy w).length (tkU n u lc yr pr a b uy w).1 (tkU n u lc yr pr a b uy w).2.1 (tkU n u lc yr pr a b uy w).2.2 := by
  unfold tkU
  by_cases c : w < u
  · rw [if_pos c]
    exact (NX_u H (AT_u c)).1
  · have e : w = u := by omega
    subst e
    rw [if_neg c]
    exact fun kind start value => K_fin H kind start value
theorem NX_tkP (H : BFT (tpL lc yr n ++ tuL n lc pr a b uy u) bs) {m : Nat} (hm : m ≤ n) : NXT (tpL lc yr n ++ tuL n lc pr a b uy u) bs (tpL lc yr m).length (tkP n u lc yr pr a b uy m).1 (tkP n u lc yr pr a b uy m).2.1 (tkP n u lc yr pr a b uy m).2.2 := by
  unfold tkP
  by_cases c : m < n
  · rw [if_pos c]
    exact (NX_p H (AT_p c)).1
  · have e : m = n := by omega
    subst e
    rw [if_neg c]
    have h := NX_tkU H (w := 0) (Nat.zero_le _)
    rw [show tuL m lc pr a b uy 0 = [] from rfl, List.append_nil] at h
    exact h
/-- a family told in part -/
theorem fam_prq (W : WF n u pr a b g) {w : Nat} (hw : w ≤ u) : ∃ g' an', WF n w (prq pr w 0) a b g' ∧ ANC n (prq pr w 0) a b an' ∧ ∀ k x c, g x < k → x < n → an' x c = true → g c < g x := by
  have hn := W.n16
  have hu := W.u12
  have hq : ∀ x, prq pr w 0 x < 12 → prq pr w 0 x = pr x ∧ pr x < w := fun x hx => by
    unfold prq at hx ⊢
    by_cases c : pr x < w ∨ (pr x = w ∧ x < 0)
    · rw [if_pos c]; exact ⟨rfl, by omega⟩
    · rw [if_neg c] at hx; omega
  obtain ⟨g', an', W', AN'⟩ := fam_exists (n := n) (u := w) (pr := prq pr w 0) (a := a) (b := b) (rk := g) (K := 16) hn (by omega) (fun p hp => by
    by_cases c : prq pr w 0 p < 12
    · obtain ⟨q1, q2⟩ := hq p c
      right; rw [q1]; exact q2
    · left
      unfold prq at c ⊢
      by_cases d : pr p < w ∨ (pr p = w ∧ p < 0)
      · rw [if_pos d] at c; omega
      · rw [if_neg d]) (fun v hv => W.par (by omega)) (fun p hp => by have := W.glt hp; omega) (fun p hp c => by
      obtain ⟨q1, q2⟩ := hq p c
      rw [q1]
      have := W.up hp (by omega)
      exact ⟨this.2.2.1, this.2.2.2.1⟩)
  refine ⟨g', an', W', AN', ?_⟩
  intro k
  induction k with
  | zero => intro x c h; omega
  | succ k ih =>
    intro x c hk hx h
    by_cases d : prq pr w 0 x < 12
    · obtain ⟨q1, q2⟩ := hq x d
      rw [AN'.par hx d, q1] at h
      have U := W.up hx (by omega)
      simp only [Bool.or_eq_true, beq_iff_eq] at h
      rcases h with ((h | h) | h) | h
      · rw [h]; exact U.2.2.1
      · rw [h]; exact U.2.2.2.1
      · have := ih _ c (by omega) U.1 h; omega
      · have := ih _ c (by omega) U.2.1 h; omega
    · rw [AN'.none hx d] at h
      cases h
end YREA
