/-! columns -/
theorem nI_div {x y : Nat} (hx : x < 1073741824) (hy : y < 1073741824) : nI x / nI y = nI (x / y) := by
  have hle := Nat.div_le_self x y
  rw [← Int32.toInt_inj, Int32.toInt_div, nI_toInt (by omega), nI_toInt (by omega), nI_toInt (by omega), ← Int.ofNat_tdiv]
  generalize x / y = q at hle
  simp only [Int.bmod]
  split <;> omega
theorem imax_sub {f x y : Nat} (hf : f < 1073741824) (hx : x < 1073741824) (hy : y < 1073741824) : imax (nI f) (nI x - nI y) = nI (max f (x - y)) := by
  unfold imax
  by_cases h : f < x - y
  · rw [nI_sub (by omega), if_pos (nI_lt h (by omega)), Nat.max_eq_right (by omega)]
  · rw [if_neg, Nat.max_eq_left (by omega)]
    rw [Int32.lt_iff_toInt_lt, subI_toInt hx hy, nI_toInt (by omega)]
    omega
/-- the person of a box; the columns that a box takes; its middle -/
def pp (a b g : Nat → Nat) (x : Nat) : Nat := if x < 16 then x else rw_ a b g (x - 16)
def wd (a b g lc : Nat → Nat) (x : Nat) : Nat := lc (pp a b g x) + 2
def mdc (a b g lc col : Nat → Nat) (x : Nat) : Nat := col x + wd a b g lc x / 2
def ucl (a b g lc col : Nat → Nat) (w : Nat) : Nat := (mdc a b g lc col (bxa a b g w) + mdc a b g lc col (bxb a b g w)) / 2
def wnt (pr a b g lc col : Nat → Nat) (x : Nat) : Nat := if x < 16 then (if pr x < 12 then ucl a b g lc col (pr x) - wd a b g lc x / 2 else 0) else 0
def updN (f : Nat → Nat) (k v : Nat) : Nat → Nat := fun j => if j = k then v else f j
theorem updN_eq {f : Nat → Nat} {k v : Nat} : updN f k v k = v := if_pos rfl
theorem updN_ne {f : Nat → Nat} {k v j : Nat} (h : j ≠ k) : updN f k v j = f j := if_neg h
def cst (pr a b g lc : Nat → Nat) (x : Nat) (s : Nat × (Nat → Nat)) : Nat × (Nat → Nat) :=
  (max s.1 (wnt pr a b g lc s.2 x) + wd a b g lc x + 1, updN s.2 x (max s.1 (wnt pr a b g lc s.2 x)))
def crow (pr a b g lc : Nat → Nat) (bx : Nat → Nat → Nat) (r : Nat) : Nat → Nat × (Nat → Nat) → Nat × (Nat → Nat)
  | 0, s => s
  | k + 1, s => cst pr a b g lc (bx r k) (crow pr a b g lc bx r k s)
def call (n u : Nat) (pr a b g lc : Nat → Nat) (bx : Nat → Nat → Nat) : Nat → (Nat → Nat) → (Nat → Nat)
  | 0, c => c
  | r + 1, c => (crow pr a b g lc bx r (sz n u a b g r) (0, call n u pr a b g lc bx r c)).2
/-- a box laid before place k of row r -/
def dn (n u : Nat) (a b g pl : Nat → Nat) (r k x : Nat) : Prop := x < 28 ∧ th n u a b g x = true ∧ (rb a b g x < r ∨ (rb a b g x = r ∧ pl x < k))
/-- what the columns keep to -/
def CB (n u : Nat) (a b g lc pl : Nat → Nat) (r k : Nat) (s : Nat × (Nat → Nat)) : Prop :=
  s.1 ≤ 11 * (st n u a b g r + k) ∧ ∀ x, dn n u a b g pl r k x → s.2 x + wd a b g lc x + 1 ≤ 11 * (st n u a b g (rb a b g x) + pl x + 1)
section COL
variable {n u : Nat} {pr a b g lc col : Nat → Nat} {an : Nat → Nat → Bool} {fam : Nat → Int64} {pu fp sp ge am lv rf od rs po fb sb bA lA fc mc cA : Nat → Int32} {pl : Nat → Nat} {bx : Nat → Nat → Nat}
theorem pp_lt (W : WF n u pr a b g) {x : Nat} (ht : th n u a b g x = true) : pp a b g x < n := by
  unfold pp
  by_cases h : x < 16
  · rw [if_pos h]
    rw [th_p h] at ht
    exact of_decide_eq_true ht
  · rw [if_neg h]
    have hx : x = 16 + (x - 16) := by omega
    rw [hx, th_u] at ht
    simp only [Bool.and_eq_true, decide_eq_true_eq] at ht
    obtain ⟨h1, h2, h3⟩ := W.par ht.1
    have hle := ht.2
    unfold rw_ at hle ⊢
    split at hle
    · rename_i h4; rw [if_pos h4]; exact h1
    · rename_i h4
      split at hle
      · rename_i h5; rw [if_neg h4, if_pos h5]; exact h2
      · omega
theorem wd_le (W : WF n u pr a b g) (hlc : ∀ p, p < n → lc p ≤ 8) {x : Nat} (ht : th n u a b g x = true) : wd a b g lc x ≤ 10 := by
  have := hlc _ (pp_lt W ht)
  unfold wd; omega
/-- the parents' boxes stand in the row above -/
theorem dn_par (W : WF n u pr a b g) {x r k : Nat} (hp : x < n) (h12 : pr x < 12) (hr : g x = r) :
    dn n u a b g pl r k (bxa a b g (pr x)) ∧ dn n u a b g pl r k (bxb a b g (pr x)) ∧ rb a b g (bxa a b g (pr x)) < r ∧ rb a b g (bxb a b g (pr x)) < r := by
  have hw := W.pr12 hp h12
  obtain ⟨a1, a2, a3⟩ := bxa_ok W hw
  obtain ⟨b1, b2, b3⟩ := bxb_ok W hw
  have hg := W.gen hp h12
  have hl : lw a b g (pr x) < r := by unfold lw; omega
  exact ⟨⟨a1, a2, Or.inl (by omega)⟩, ⟨b1, b2, Or.inl (by omega)⟩, by omega, by omega⟩
theorem st_mono {r r' k : Nat} (h : r < r') (hk : k < sz n u a b g r) : st n u a b g r + k + 1 ≤ st n u a b g r' := by
  have h1 : st n u a b g (r + 1) ≤ st n u a b g r' := sm_mono h
  rw [st_s] at h1
  omega
theorem mdc_le (W : WF n u pr a b g) (hlc : ∀ p, p < n → lc p ≤ 8) (L : LAY n u a b g pl bx) {r k : Nat} {s : Nat × (Nat → Nat)} (B : CB n u a b g lc pl r k s) {x : Nat} (hd : dn n u a b g pl r k x) (hx : rb a b g x < r) : mdc a b g lc s.2 x ≤ 11 * st n u a b g r := by
  have h1 := B.2 x hd
  have h2 := st_mono (r' := r) hx (L.1 x hd.1 hd.2.1).1
  unfold mdc
  omega
theorem wnt_le (W : WF n u pr a b g) (hlc : ∀ p, p < n → lc p ≤ 8) (L : LAY n u a b g pl bx) {r k : Nat} {s : Nat × (Nat → Nat)} (B : CB n u a b g lc pl r k s) {x : Nat} (ht : th n u a b g x = true) (hx : rb a b g x = r) : wnt pr a b g lc s.2 x ≤ 11 * st n u a b g r := by
  unfold wnt
  by_cases h : x < 16
  · rw [if_pos h]
    by_cases h12 : pr x < 12
    · rw [if_pos h12]
      rw [th_p h] at ht
      rw [rb_p h] at hx
      obtain ⟨d1, d2, d3, d4⟩ := dn_par (pl := pl) (k := k) W (of_decide_eq_true ht) h12 hx
      have m1 := mdc_le W hlc L B d1 d3
      have m2 := mdc_le W hlc L B d2 d4
      unfold ucl
      omega
    · rw [if_neg h12]; omega
  · rw [if_neg h]; omega
theorem CB.step (W : WF n u pr a b g) (hlc : ∀ p, p < n → lc p ≤ 8) (L : LAY n u a b g pl bx) {r k : Nat} {s : Nat × (Nat → Nat)} (B : CB n u a b g lc pl r k s) (hk : k < sz n u a b g r) : CB n u a b g lc pl r (k + 1) (cst pr a b g lc (bx r k) s) := by
  obtain ⟨q1, q2, q3, q4⟩ := L.2 r k hk
  have hw := wnt_le W hlc L B q2 q3
  have hd := wd_le W hlc q2
  refine ⟨?_, fun x hx => ?_⟩
  · have := B.1
    unfold cst
    dsimp only
    omega
  · by_cases e : x = bx r k
    · have := B.1
      rw [e, q3, q4]
      unfold cst
      dsimp only
      rw [updN_eq]
      omega
    · have hx' : dn n u a b g pl r k x := by
        refine ⟨hx.1, hx.2.1, ?_⟩
        rcases hx.2.2 with h | ⟨h1, h2⟩
        · exact Or.inl h
        · refine Or.inr ⟨h1, ?_⟩
          by_cases e2 : pl x = k
          · have := (L.1 x hx.1 hx.2.1).2
            rw [h1, e2] at this
            exact absurd this.symm e
          · omega
      have := B.2 x hx'
      unfold cst
      dsimp only
      rw [updN_ne e]
      exact this
theorem crow_CB (W : WF n u pr a b g) (hlc : ∀ p, p < n → lc p ≤ 8) (L : LAY n u a b g pl bx) {r k : Nat} {s : Nat × (Nat → Nat)} (B : CB n u a b g lc pl r 0 s) (hk : k ≤ sz n u a b g r) : CB n u a b g lc pl r k (crow pr a b g lc bx r k s) := by
  induction k with
  | zero => exact B
  | succ k ih => exact (ih (by omega)).step W hlc L (by omega)
theorem CB.next (L : LAY n u a b g pl bx) {r k : Nat} {s : Nat × (Nat → Nat)} (B : CB n u a b g lc pl r (sz n u a b g r) s) : CB n u a b g lc pl (r + 1) 0 (0, s.2) := by
  refine ⟨Nat.zero_le _, fun x hx => B.2 x ⟨hx.1, hx.2.1, ?_⟩⟩
  rcases hx.2.2 with h | ⟨h1, h2⟩
  · by_cases e : rb a b g x = r
    · exact Or.inr ⟨e, by have := (L.1 x hx.1 hx.2.1).1; rw [e] at this; exact this⟩
    · exact Or.inl (by omega)
  · omega
theorem call_CB (W : WF n u pr a b g) (hlc : ∀ p, p < n → lc p ≤ 8) (L : LAY n u a b g pl bx) {r : Nat} {c : Nat → Nat} : CB n u a b g lc pl r 0 (0, call n u pr a b g lc bx r c) := by
  induction r with
  | zero =>
    refine ⟨Nat.zero_le _, fun x hx => ?_⟩
    rcases hx.2.2 with h | ⟨h1, h2⟩
    · exact absurd h (Nat.not_lt_zero _)
    · exact absurd h2 (Nat.not_lt_zero _)
  | succ r ih => exact (crow_CB W hlc L ih (Nat.le_refl _)).next (k := 0) L
/-- no column of a box beyond 308 -/
theorem call_lt (W : WF n u pr a b g) (hlc : ∀ p, p < n → lc p ≤ 8) (L : LAY n u a b g pl bx) {c : Nat → Nat} {x : Nat} (hx : x < 28) (ht : th n u a b g x = true) : call n u pr a b g lc bx (rowsN g n) c x + wd a b g lc x + 1 ≤ 308 := by
  have hr := th_row W ht
  have h1 := (call_CB (r := rowsN g n) (c := c) W hlc L).2 x ⟨hx, ht, Or.inl hr⟩
  have h2 := place_lt W hr (L.1 x hx ht).1
  dsimp only at h1
  omega
end COL
