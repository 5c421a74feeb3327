/-! kinship and distance are symmetric; lines; columns of a row -/
section YFAM
variable {n u : Nat} {pr a b g : Nat → Nat} {an : Nat → Nat → Bool} {pl lc : Nat → Nat} {bx : Nat → Nat → Nat}
theorem KV_uniq (W : WF n u pr a b g) {kk kk2 : Nat → Nat → Int64} (h1 : ∀ p q, p < n → q < n → kk p q = KV pr a b g kk p q) (h2 : ∀ p q, p < n → q < n → kk2 p q = KV pr a b g kk2 p q) :
    ∀ d p q, p < n → q < n → g p + g q < d → kk p q = kk2 p q := by
  intro d
  induction d with
  | zero => intro p q _ _ h; omega
  | succ d ih =>
    intro p q hp hq hd
    rw [h1 p q hp hq, h2 p q hp hq]
    unfold KV
    by_cases e : p = q
    · rw [if_pos e, if_pos e]
      by_cases c : pr p < 12
      · have U := W.up hp c
        rw [if_pos c, if_pos c, ih _ _ U.1 U.2.1 (by subst e; omega)]
      · rw [if_neg c, if_neg c]
    · rw [if_neg e, if_neg e]
      by_cases l : ltp g p q = true
      · rw [if_pos l, if_pos l]
        by_cases c : pr p < 12
        · have U := W.up hp c
          rw [if_pos c, if_pos c, ih _ _ hq U.1 (by omega), ih _ _ hq U.2.1 (by omega)]
        · rw [if_neg c, if_neg c]
      · rw [if_neg l, if_neg l]
        by_cases c : pr q < 12
        · have U := W.up hq c
          rw [if_pos c, if_pos c, ih _ _ hp U.1 (by omega), ih _ _ hp U.2.1 (by omega)]
        · rw [if_neg c, if_neg c]
theorem ltp_tot {p q : Nat} (h : p ≠ q) : ltp g p q = !ltp g q p := by
  unfold ltp
  by_cases c : g q < g p ∨ (g q = g p ∧ q < p)
  · rw [decide_eq_true c, decide_eq_false (show ¬ (g p < g q ∨ (g p = g q ∧ p < q)) by omega)]; rfl
  · rw [decide_eq_false c, decide_eq_true (show (g p < g q ∨ (g p = g q ∧ p < q)) by omega)]; rfl
theorem KV_sym (W : WF n u pr a b g) {kk kk2 : Nat → Nat → Int64} (h1 : ∀ p q, p < n → q < n → kk p q = KV pr a b g kk p q) (h2 : ∀ p q, p < n → q < n → kk2 p q = KV pr a b g kk2 p q) {p q : Nat} (hp : p < n) (hq : q < n) : kk p q = kk2 q p := by
  have U := fun p q hp hq => KV_uniq W h1 h2 (g p + g q + 1) p q hp hq (Nat.lt_succ_self _)
  by_cases e : p = q
  · subst e; exact U p p hp hp
  · rw [h1 p q hp hq, h2 q p hq hp]
    unfold KV
    rw [if_neg e, if_neg (Ne.symm e), ltp_tot e]
    cases l : ltp g q p with
    | true =>
      simp only [Bool.not_true, if_pos, Bool.false_eq_true, if_false]
      by_cases c : pr q < 12
      · have V := W.up hq c
        rw [if_pos c, if_pos c, U _ _ hp V.1, U _ _ hp V.2.1]
      · rw [if_neg c, if_neg c]
    | false =>
      simp only [Bool.not_false, if_pos, Bool.false_eq_true, if_false]
      by_cases c : pr p < 12
      · have V := W.up hp c
        rw [if_pos c, if_pos c, U _ _ hq V.1, U _ _ hq V.2.1]
      · rw [if_neg c, if_neg c]
def adj (pr a b : Nat → Nat) (x y : Nat) : Prop := par pr a b x y ∨ par pr a b y x
theorem sph_lt2 {p k q : Nat} (hp : p < n) (h : sph n pr a b p k q) : q < n := by
  induction k with
  | zero => have : q = p := h; omega
  | succ k ih =>
    rcases h with h | h
    · exact ih h
    · exact h.1
theorem sph_first {p x : Nat} (hp : p < n) (hx : x < n) (hax : adj pr a b p x) : ∀ k q, sph n pr a b x k q → sph n pr a b p (k + 1) q := by
  intro k
  induction k with
  | zero =>
    intro q h
    have : q = x := h
    subst this
    exact Or.inr ⟨hx, p, hp, rfl, hax⟩
  | succ k ih =>
    intro q h
    rcases h with h | ⟨h1, y, h2, h3, h4⟩
    · exact Or.inl (ih q h)
    · exact Or.inr ⟨h1, y, h2, ih y h3, h4⟩
theorem sph_sym {p q : Nat} (hp : p < n) : ∀ k q, sph n pr a b p k q → sph n pr a b q k p := by
  intro k
  induction k with
  | zero => intro q h; exact Eq.symm h
  | succ k ih =>
    intro q h
    rcases h with h | ⟨h1, x, h2, h3, h4⟩
    · exact Or.inl (ih q h)
    · exact sph_first h1 h2 (Or.symm h4) k p (ih x h3)
theorem DST.sym {p q : Nat} {r : Int32} (hp : p < n) (hq : q < n) (h : DST n pr a b p q r) : DST n pr a b q p r := by
  rcases h with ⟨d, a1, a2, a3, a4⟩ | ⟨a1, a2⟩
  · exact Or.inl ⟨d, a1, sph_sym (q := q) hp d q a2, fun j hj z => a3 j hj (sph_sym (q := p) hq j p z), a4⟩
  · exact Or.inr ⟨fun k hk z => a1 k hk (sph_sym (q := p) hq k p z), a2⟩
theorem lns_le (W : WF n u pr a b g) {q : Nat} (hq : q < n) : ∀ d p, p < n → g p < d → lns pr a b p q ≤ 2 ^ g p := by
  intro d
  induction d with
  | zero => intro p _ h; omega
  | succ d ih =>
    intro p hp hd
    by_cases e : p = q
    · subst e
      rw [lns_self W hq]
      exact Nat.one_le_two_pow
    · by_cases c : pr p < 12
      · have U := W.up hp c
        rw [lns_up W hp e c]
        have h1 := ih _ U.1 (by omega)
        have h2 := ih _ U.2.1 (by omega)
        have h3 : 2 ^ g (a (pr p)) ≤ 2 ^ (g p - 1) := Nat.pow_le_pow_right (by omega) (by omega)
        have h4 : 2 ^ g (b (pr p)) ≤ 2 ^ (g p - 1) := Nat.pow_le_pow_right (by omega) (by omega)
        have h5 : 2 ^ g p = 2 ^ (g p - 1) * 2 := by rw [← Nat.pow_succ]; congr 1; omega
        omega
      · rw [lns_none e c]; exact Nat.zero_le _
theorem lns_pos (W : WF n u pr a b g) (AN : ANC n pr a b an) {q : Nat} (hq : q < n) : ∀ d p, p < n → g p < d → (0 < lns pr a b p q ↔ p = q ∨ an p q = true) := by
  intro d
  induction d with
  | zero => intro p _ h; omega
  | succ d ih =>
    intro p hp hd
    by_cases e : p = q
    · subst e
      rw [lns_self W hq]
      exact ⟨fun _ => Or.inl rfl, fun _ => by omega⟩
    · by_cases c : pr p < 12
      · have U := W.up hp c
        have h1 := ih _ U.1 (by omega)
        have h2 := ih _ U.2.1 (by omega)
        rw [lns_up W hp e c, AN.par hp c]
        constructor
        · intro h
          refine Or.inr ?_
          rcases (show 0 < lns pr a b (a (pr p)) q ∨ 0 < lns pr a b (b (pr p)) q by omega) with h | h
          · rcases h1.mp h with h | h
            · simp [h]
            · simp [h]
          · rcases h2.mp h with h | h
            · simp [h]
            · simp [h]
        · rintro (h | h)
          · exact absurd h e
          · simp only [Bool.or_eq_true, beq_iff_eq] at h
            rcases h with ((h | h) | h) | h
            · have := h1.mpr (Or.inl h.symm); omega
            · have := h2.mpr (Or.inl h.symm); omega
            · have := h1.mpr (Or.inr h); omega
            · have := h2.mpr (Or.inr h); omega
      · rw [lns_none e c, AN.none hp c]
        constructor
        · intro h; omega
        · rintro (h | h)
          · exact absurd h e
          · cases h
/-- a box laid keeps its column -/
theorem crow_keep {r k : Nat} {s : Nat × (Nat → Nat)} {x : Nat} (h : ∀ j, j < k → bx r j ≠ x) : (crow pr a b g lc bx r k s).2 x = s.2 x := by
  induction k with
  | zero => rfl
  | succ k ih =>
    show updN (crow pr a b g lc bx r k s).2 (bx r k) _ x = _
    unfold updN
    rw [if_neg (fun z => h k (Nat.lt_succ_self k) z.symm)]
    exact ih fun j hj => h j (by omega)
theorem crow_col {r k m : Nat} {s : Nat × (Nat → Nat)} (L : LAY n u a b g pl bx) (hm : m ≤ sz n u a b g r) (hk : k < m) : (crow pr a b g lc bx r m s).2 (bx r k) = (crow pr a b g lc bx r (k + 1) s).2 (bx r k) := by
  induction m with
  | zero => omega
  | succ m ih =>
    by_cases e : k = m
    · subst e; rfl
    · rw [← ih (by omega) (by omega)]
      show updN (crow pr a b g lc bx r m s).2 (bx r m) _ (bx r k) = _
      unfold updN
      rw [if_neg]
      intro z
      have h1 := (L.2 r k (by omega)).2.2.2
      have h2 := (L.2 r m (by omega)).2.2.2
      rw [z] at h1
      omega
theorem crow_next {r k : Nat} {s : Nat × (Nat → Nat)} : (crow pr a b g lc bx r (k + 1) s).1 = (crow pr a b g lc bx r (k + 1) s).2 (bx r k) + wd a b g lc (bx r k) + 1 := by
  show max _ _ + wd a b g lc (bx r k) + 1 = updN _ (bx r k) _ (bx r k) + wd a b g lc (bx r k) + 1
  unfold updN
  rw [if_pos rfl]
theorem crow_ge {r k : Nat} {s : Nat × (Nat → Nat)} : (crow pr a b g lc bx r k s).1 ≤ (crow pr a b g lc bx r (k + 1) s).2 (bx r k) := by
  show (crow pr a b g lc bx r k s).1 ≤ updN (crow pr a b g lc bx r k s).2 (bx r k) (max (crow pr a b g lc bx r k s).1 (wnt pr a b g lc (crow pr a b g lc bx r k s).2 (bx r k))) (bx r k)
  unfold updN
  rw [if_pos rfl]
  omega
theorem call_col {R r k : Nat} {c : Nat → Nat} (L : LAY n u a b g pl bx) (hr : r < R) (hk : k < sz n u a b g r) : call n u pr a b g lc bx R c (bx r k) = call n u pr a b g lc bx (r + 1) c (bx r k) := by
  induction R with
  | zero => omega
  | succ R ih =>
    by_cases e : r = R
    · subst e; rfl
    · rw [← ih (by omega)]
      show (crow pr a b g lc bx R (sz n u a b g R) (0, call n u pr a b g lc bx R c)).2 (bx r k) = _
      rw [crow_keep]
      intro j hj z
      have h1 := (L.2 R j hj).2.2.1
      have h2 := (L.2 r k hk).2.2.1
      rw [z] at h1
      omega
/-- two boxes of a row beside each other lie apart -/
theorem colF_apart {r k : Nat} (L : LAY n u a b g pl bx) (hr : r < rowsN g n) (hk : k + 1 < sz n u a b g r) :
    colF n u pr a b g lc bx (bx r k) + wd a b g lc (bx r k) + 1 ≤ colF n u pr a b g lc bx (bx r (k + 1)) := by
  unfold colF
  rw [call_col L hr (by omega), call_col L hr hk]
  show (crow pr a b g lc bx r (sz n u a b g r) (0, call n u pr a b g lc bx r (fun _ => 0))).2 (bx r k) + _ + 1 ≤ (crow pr a b g lc bx r (sz n u a b g r) (0, call n u pr a b g lc bx r (fun _ => 0))).2 (bx r (k + 1))
  rw [crow_col L (Nat.le_refl _) (show k < sz n u a b g r by omega), crow_col L (Nat.le_refl _) hk, ← crow_next]
  exact crow_ge
end YFAM
