/-! two stable sorts of a row by keys: by exchanges and by counting -/
section YSRT
variable {n u : Nat} {pr a b g : Nat → Nat} {an : Nat → Nat → Bool} {pn ge lv : Nat → Int32} {un od : Nat → Nat → Int32} {nu no : Nat} {ln : Nat → Nat} {pl pl0 key : Nat → Nat} {bx : Nat → Nat → Nat}
/-- key first, the old place behind -/
def wt (key pl0 : Nat → Nat) (x : Nat) : Nat := key x * 32 + pl0 x
theorem srt1_out {r : Nat} : ∀ k (s : (Nat → Nat) × (Nat → Nat → Nat)) r' j, (r' ≠ r ∨ k < j) → (srt1 key r k s).2 r' j = s.2 r' j := by
  intro k
  induction k with
  | zero => intro s r' j _; rfl
  | succ k ih =>
    intro s r' j hj
    unfold srt1
    split
    · rw [ih _ r' j (by omega)]
      show bxS r k (k + 1) s.2 r' j = s.2 r' j
      unfold bxS
      by_cases e : r' = r
      · rw [if_pos e, if_neg (by omega), if_neg (by omega), e]
      · rw [if_neg e]
    · rfl
theorem srtR_out {r : Nat} : ∀ k (s : (Nat → Nat) × (Nat → Nat → Nat)) r' j, (r' ≠ r ∨ k ≤ j) → (srtR key r k s).2 r' j = s.2 r' j := by
  intro k
  induction k with
  | zero => intro s r' j _; rfl
  | succ k ih =>
    intro s r' j hj
    show (srt1 key r k (srtR key r k s)).2 r' j = _
    rw [srt1_out k _ r' j (by omega), ih s r' j (by omega)]
theorem srt1_ok {r N : Nat} (h32 : ∀ x y, key x < key y → pl0 x < 32 → wt key pl0 x < wt key pl0 y) (P : ∀ x, pl0 x < 32) : ∀ k (s : (Nat → Nat) × (Nat → Nat → Nat)), k ≤ N →
    (∀ i j, i < j → j ≤ N → i ≠ k → j ≠ k → wt key pl0 (s.2 r i) < wt key pl0 (s.2 r j)) →
    (∀ j, k < j → j ≤ N → wt key pl0 (s.2 r k) < wt key pl0 (s.2 r j)) →
    (∀ i, i < k → ¬ key (s.2 r k) < key (s.2 r i) → wt key pl0 (s.2 r i) < wt key pl0 (s.2 r k)) →
    ∀ i j, i < j → j ≤ N → wt key pl0 ((srt1 key r k s).2 r i) < wt key pl0 ((srt1 key r k s).2 r j) := by
  intro k
  induction k with
  | zero =>
    intro s _ h1 h2 _ i j hij hj
    show wt key pl0 (s.2 r i) < wt key pl0 (s.2 r j)
    by_cases e : i = 0
    · subst e; exact h2 j hij hj
    · exact h1 i j hij hj e (by omega)
  | succ k ih =>
    intro s hk h1 h2 h3
    unfold srt1
    by_cases c : key (s.2 r (k + 1)) < key (s.2 r k)
    · rw [if_pos c]
      have e0 : ∀ z, bxS r k (k + 1) s.2 r z = if z = k + 1 then s.2 r k else if z = k then s.2 r (k + 1) else s.2 r z := fun z => by
        show (if r = r then _ else _) = _
        rw [if_pos rfl]
      refine ih (plS s.2 r k (k + 1) s.1, bxS r k (k + 1) s.2) (by omega) ?_ ?_ ?_
      · intro i j hij hj hi hj2
        show wt key pl0 (bxS r k (k + 1) s.2 r i) < wt key pl0 (bxS r k (k + 1) s.2 r j)
        rw [e0, e0, if_neg hi, if_neg hj2]
        by_cases q1 : i = k + 1
        · rw [if_pos q1, if_neg (by omega)]
          exact h1 k j (by omega) hj (by omega) (by omega)
        · rw [if_neg q1]
          by_cases q2 : j = k + 1
          · rw [if_pos q2]
            exact h1 i k (by omega) (by omega) q1 (by omega)
          · rw [if_neg q2]
            exact h1 i j hij hj q1 q2
      · intro j hkj hj
        show wt key pl0 (bxS r k (k + 1) s.2 r k) < wt key pl0 (bxS r k (k + 1) s.2 r j)
        rw [e0, e0, if_neg (by omega), if_pos rfl]
        by_cases q : j = k + 1
        · rw [if_pos q]
          exact h32 _ _ c (P _)
        · rw [if_neg q, if_neg (by omega)]
          exact h2 j (by omega) hj
      · intro i hi hn
        have hn' : ¬ key (bxS r k (k + 1) s.2 r k) < key (bxS r k (k + 1) s.2 r i) := hn
        show wt key pl0 (bxS r k (k + 1) s.2 r i) < wt key pl0 (bxS r k (k + 1) s.2 r k)
        rw [e0, e0, if_neg (by omega), if_pos rfl, if_neg (by omega), if_neg (by omega)] at hn' ⊢
        exact h3 i (by omega) hn'
    · rw [if_neg c]
      intro i j hij hj
      by_cases q1 : j = k + 1
      · subst q1
        by_cases q2 : i = k
        · subst q2; exact h3 i (by omega) c
        · exact Nat.lt_trans (h1 i k (by omega) (by omega) (by omega) (by omega)) (h3 k (by omega) c)
      · by_cases q2 : i = k + 1
        · subst q2; exact h2 j hij hj
        · exact h1 i j hij hj q2 q1
/-- the class's row, sorted: places go up with the weight -/
theorem srtR_ok {r : Nat} {s : (Nat → Nat) × (Nat → Nat → Nat)} (L : LAY n u a b g s.1 s.2) (P : ∀ x, pl0 x < 32) (hP : ∀ x, x < 28 → th n u a b g x = true → pl0 x = s.1 x) :
    ∀ k, k ≤ sz n u a b g r → ∀ i j, i < j → j < k → wt key pl0 ((srtR key r k s).2 r i) < wt key pl0 ((srtR key r k s).2 r j) := by
  have h32 : ∀ x y, key x < key y → pl0 x < 32 → wt key pl0 x < wt key pl0 y := fun x y h1 h2 => by unfold wt; omega
  intro k
  induction k with
  | zero => intro _ i j _ h; omega
  | succ k ih =>
    intro hk i j hij hj
    have Lk := srtR_LAY (key := key) L (show k ≤ sz n u a b g r by omega)
    have hb : ∀ m, k ≤ m → (srtR key r k s).2 r m = s.2 r m := fun m hm => srtR_out k s r m (Or.inr hm)
    show wt key pl0 ((srt1 key r k (srtR key r k s)).2 r i) < wt key pl0 ((srt1 key r k (srtR key r k s)).2 r j)
    refine srt1_ok (N := k) h32 P k (srtR key r k s) (Nat.le_refl _) ?_ ?_ ?_ i j hij (by omega)
    · intro i j hij hj hi hj2
      exact ih (by omega) i j hij (by omega)
    · intro j h1 h2; omega
    · intro i hi hn
      obtain ⟨q1, q2, q3, q4⟩ := Lk.2 r i (by omega)
      obtain ⟨v1, v2, v3, v4⟩ := L.2 r k (by omega)
      rw [hb k (Nat.le_refl _)] at hn ⊢
      have hp : pl0 ((srtR key r k s).2 r i) < k := by
        rw [hP _ q1 q2]
        obtain ⟨w1, w2⟩ := L.1 _ q1 q2
        rw [q3] at w1 w2
        refine Classical.byContradiction fun z => ?_
        have h5 := hb (s.1 ((srtR key r k s).2 r i)) (by omega)
        rw [w2] at h5
        have h6 := (Lk.2 r _ w1).2.2.2
        rw [h5, q4] at h6
        omega
      have hpk : pl0 (s.2 r k) = k := by rw [hP _ v1 v2]; exact v4
      unfold wt
      omega
/-- how many of a row weigh less -/
def wrk (n u : Nat) (a b g key pl0 : Nat → Nat) (r x : Nat) : Nat := cnt (fun y => inr n u a b g r y && decide (wt key pl0 y < wt key pl0 x)) 28
theorem wrk_places (L : LAY n u a b g pl bx) {r x : Nat} : wrk n u a b g key pl0 r x = cnt (fun k => decide (wt key pl0 (bx r k) < wt key pl0 x)) (sz n u a b g r) := by
  have h := sm_places (K := sz n u a b g r) (N := 28) (P := inr n u a b g r) (pl := pl) (bx := bx r) (fun k hk => by
    obtain ⟨q1, q2, q3, q4⟩ := L.2 r k hk
    exact ⟨q1, inr_iff.mpr ⟨q2, q3⟩, q4⟩) (fun y hy hi => by
    obtain ⟨q1, q2⟩ := inr_iff.mp hi
    have := L.1 y hy q1
    rw [q2] at this
    exact this) (fun y => if decide (wt key pl0 y < wt key pl0 x) then 1 else 0)
  unfold wrk
  rw [cnt_sm, cnt_sm, h]
  refine sm_congr fun y _ => ?_
  cases inr n u a b g r y <;> simp
theorem wrk_sorted {r k : Nat} (L : LAY n u a b g pl bx) (hs : ∀ i j, i < j → j < sz n u a b g r → wt key pl0 (bx r i) < wt key pl0 (bx r j)) (hk : k < sz n u a b g r) : wrk n u a b g key pl0 r (bx r k) = k := by
  rw [wrk_places L, cnt_congr (g := fun i => decide (i < k)) (fun i hi => ?_), cnt_ltn, Nat.min_eq_left (by omega)]
  rw [decide_eq_decide]
  constructor
  · intro h
    refine Classical.byContradiction fun z => ?_
    by_cases e : i = k
    · subst e; omega
    · have := hs k i (by omega) hi; omega
  · intro h
    exact hs i k h hk
end YSRT
