def rowsN (g : Nat → Nat) : Nat → Nat
  | 0 => 0
  | n + 1 => max (rowsN g n) (g n + 1)
theorem rowsN_lt {g : Nat → Nat} {n p : Nat} (h : p < n) : g p < rowsN g n := by
  induction n with
  | zero => omega
  | succ n ih =>
    unfold rowsN
    by_cases e : p = n
    · subst e; omega
    · have := ih (by omega); omega
theorem rowsN_le {g : Nat → Nat} {n m : Nat} (h : ∀ p, p < n → g p < m) : rowsN g n ≤ m := by
  induction n with
  | zero => exact Nat.zero_le _
  | succ n ih => have := ih (fun p hp => h p (by omega)); have := h n (by omega); unfold rowsN; omega
theorem rowsN_congr {g g' : Nat → Nat} {n : Nat} (h : ∀ p, p < n → g p = g' p) : rowsN g n = rowsN g' n := by
  induction n with
  | zero => rfl
  | succ n ih => unfold rowsN; rw [ih (fun p hp => h p (by omega)), h n (by omega)]
/-- the level of a union; the partner with a reference box, 16 without -/
def lw (a b g : Nat → Nat) (w : Nat) : Nat := max (g (a w)) (g (b w))
def rw_ (a b g : Nat → Nat) (w : Nat) : Nat := if g (a w) < g (b w) then a w else if g (b w) < g (a w) then b w else 16
def rN (k : Nat) : Int32 := if k < 16 then nI k else -1
theorem rN_in {k : Nat} (h : k < 16) : rN k = nI k := if_pos h
theorem rN_out {k : Nat} (h : ¬ k < 16) : rN k = -1 := if_neg h
theorem rN_m1 {k : Nat} : rN k = -1 ↔ ¬ k < 16 := by
  unfold rN
  by_cases h : k < 16
  · rw [if_pos h]; exact ⟨fun q => absurd q (nI_m1 (by omega)), fun q => absurd h q⟩
  · rw [if_neg h]; exact ⟨fun _ => h, fun _ => rfl⟩
theorem subI_toInt {x y : Nat} (hx : x < 1073741824) (hy : y < 1073741824) : (nI x - nI y).toInt = (x : Int) - y := by
  rw [Int32.toInt_sub, nI_toInt (by omega), nI_toInt (by omega)]
  simp only [Int.bmod]
  split <;> omega
theorem subI_ge {x y : Nat} (hx : x < 1073741824) (hy : y < 1073741824) : 0 ≤ nI x - nI y ↔ y ≤ x := by
  rw [Int32.le_iff_toInt_le, subI_toInt hx hy]
  have : (0 : Int32).toInt = 0 := by decide
  rw [this]; omega
theorem subI_eq {x y : Nat} (hx : x < 1073741824) (hy : y < 1073741824) : nI x - nI y = 0 ↔ x = y := by
  rw [← Int32.toInt_inj, subI_toInt hx hy]
  have : (0 : Int32).toInt = 0 := by decide
  rw [this]; omega
theorem subI_le {x y : Nat} (hx : x < 1073741824) (hy : y < 1073741824) : nI x - nI y ≤ 0 ↔ x ≤ y := by
  rw [Int32.le_iff_toInt_le, subI_toInt hx hy]
  have : (0 : Int32).toInt = 0 := by decide
  rw [this]; omega
theorem subI_gt {x y : Nat} (hx : x < 1073741824) (hy : y < 1073741824) : 0 < nI x - nI y ↔ y < x := by
  rw [Int32.lt_iff_toInt_lt, subI_toInt hx hy]
  have : (0 : Int32).toInt = 0 := by decide
  rw [this]; omega
theorem X9_fill {N : Nat} {f : Nat → Int32} {x : Int32} (hN : N ≤ 1000) : ∃ f', p9_fill N f x = some f' ∧ ∀ i, i < N → f' i = x := by
  have hLP := loop_all (fun k i (s : Nat → Int32) => p9_fill_L2 N x k (nI i) s) N (fun i s => ∀ j, j < i → s j = x) (fun r => ∀ i, i < N → r i = x) ?_ ?_ FU 0 f (Nat.zero_le _) (by show N - 0 < 1024; omega) (fun j hj => by omega)
  · obtain ⟨r, h1, h2⟩ := hLP
    refine ⟨r, ?_, h2⟩
    unfold p9_fill
    rw [n0, h1]
    rfl
  · intro k s hs
    refine ⟨s, ?_, hs⟩
    show (if nI N ≤ nI N then some s else _) = some s
    rw [if_pos (nI_le (Nat.le_refl _) (by omega))]
  · intro k i s hi hs
    refine ⟨upd s i x, ?_, fun j hj => ?_⟩
    · show (if nI N ≤ nI i then some s else gd (nI i) N (lb (upd s (nI i).toNatClampNeg x) (fun g15 => lb (nI i + 1) (fun t16 => p9_fill_L2 N x k t16 g15)))) = _
      rw [if_neg (nI_ge hi (by omega)), gd_in hi (by omega), nI_clamp (by omega)]
      simp only [lb]
      rw [n1, nI_add]
    · by_cases e : j = i
      · rw [e, upd_eq]
      · rw [upd_ne e]; exact hs j (by omega)
theorem X9_copy {n m i j c : Nat} {f t : Nat → Int32} (hi : i + c ≤ n) (hj : j + c ≤ m) (hn : n < 100000) (hm : m < 100000) (hc : c ≤ 1000) :
    ∃ t', p9_copyCells n m f t (nI i) (nI j) (nI c) = some t' ∧ (∀ k, k < c → t' (j + k) = f (i + k)) ∧ ∀ k, (k < j ∨ j + c ≤ k) → t' k = t k := by
  have hLP := loop_all (fun k q (s : Nat → Int32) => p9_copyCells_L3 n m f (nI i) (nI j) (nI c) k (nI q) s) c
    (fun q s => (∀ k, k < q → s (j + k) = f (i + k)) ∧ ∀ k, (k < j ∨ j + c ≤ k) → s k = t k) (fun s => (∀ k, k < c → s (j + k) = f (i + k)) ∧ ∀ k, (k < j ∨ j + c ≤ k) → s k = t k) ?_ ?_ FU 0 t (Nat.zero_le _) (by show c - 0 < 1024; omega) ⟨fun k hk => by omega, fun _ _ => rfl⟩
  · obtain ⟨r, h1, h2⟩ := hLP
    refine ⟨r, ?_, h2⟩
    unfold p9_copyCells
    rw [n0, h1]
    rfl
  · intro k s hs
    refine ⟨s, ?_, hs⟩
    show (if nI c ≤ nI c then some s else _) = some s
    rw [if_pos (nI_le (Nat.le_refl _) (by omega))]
  · intro k q s hq hs
    refine ⟨upd s (j + q) (f (i + q)), ?_, fun k hk => ?_, fun k hk => ?_⟩
    · show (if nI c ≤ nI q then some s else lb (pPut m s (nI j + nI q) (pAt n f (nI i + nI q))) (fun p2 => lb (nI q + 1) (fun t26 => p9_copyCells_L3 n m f (nI i) (nI j) (nI c) k t26 p2))) = _
      rw [if_neg (nI_ge hq (by omega)), nI_add, nI_add, at_in (by omega) (by omega), put_in (by omega) (by omega)]
      simp only [lb]
      rw [n1, nI_add]
    · by_cases e : k = q
      · rw [e, upd_eq]
      · rw [upd_ne (by omega)]; exact hs.1 k (by omega)
    · rw [upd_ne (by omega)]; exact hs.2 k hk
section FAM2
variable {n u : Nat} {pr a b g : Nat → Nat} {an : Nat → Nat → Bool} {pu fp sp ge am lv rf : Nat → Int32}
theorem X1_noteLevel (W : WF n u pr a b g) (F : FX n u pr a b pu fp sp) (hr : ∀ p, p < n → ge p = nI (g p)) {w : Nat} (hw : w < u) :
    p1_noteLevel fp ge lv rf sp (nI w) = (upd lv w (nI (lw a b g w)), upd rf w (rN (rw_ a b g w))) := by
  have hn := W.n16
  have hu := W.u12
  obtain ⟨h1, h2, h3⟩ := W.par hw
  have g1 := W.glt h1
  have g2 := W.glt h2
  unfold p1_noteLevel
  rw [F.at_fp hu hw, F.at_sp hu hw]
  simp only [lb]
  rw [at_in (i := a w) (by omega) (by omega), at_in (i := b w) (by omega) (by omega), hr _ h1, hr _ h2]
  unfold p1_noteLevel_J62
  simp only [lb]
  by_cases e1 : g (b w) ≤ g (a w)
  · have hl : lw a b g w = g (a w) := Nat.max_eq_left e1
    rw [if_pos ((subI_ge (by omega) (by omega)).mpr e1), put_in (by omega) (by omega), hl]
    by_cases e2 : g (a w) = g (b w)
    · have hr : rw_ a b g w = 16 := by unfold rw_; rw [if_neg (by omega), if_neg (by omega)]
      rw [if_pos ((subI_eq (by omega) (by omega)).mpr e2), put_in (by omega) (by omega), hr]
      rfl
    · have hr : rw_ a b g w = b w := by unfold rw_; rw [if_neg (by omega), if_pos (by omega)]
      rw [if_neg (fun q => e2 ((subI_eq (by omega) (by omega)).mp q)), if_pos ((subI_ge (by omega) (by omega)).mpr e1), put_in (by omega) (by omega), hr, rN_in (by omega)]
  · have hl : lw a b g w = g (b w) := Nat.max_eq_right (by omega)
    have hr : rw_ a b g w = a w := by unfold rw_; rw [if_pos (by omega)]
    rw [if_neg (fun q => e1 ((subI_ge (by omega) (by omega)).mp q)), put_in (by omega) (by omega), hl, if_neg (fun q => by have := (subI_eq (by omega) (by omega)).mp q; omega), if_neg (fun q => e1 ((subI_ge (by omega) (by omega)).mp q)), put_in (by omega) (by omega), hr, rN_in (by omega)]
/-- what refresh leaves: generations, ancestors, levels, reference boxes, rows -/
def RF (n u : Nat) (a b g : Nat → Nat) (an : Nat → Nat → Bool) (ge am lv rf : Nat → Int32) : Prop :=
  (∀ p, p < n → RT g an ge am p) ∧ ∀ w, w < u → lv w = nI (lw a b g w) ∧ rf w = rN (rw_ a b g w)
theorem X1_refresh (W : WF n u pr a b g) (AN : ANC n pr a b an) (F : FX n u pr a b pu fp sp) :
    ∃ am' ge' lv' rf', p1_refresh (nI n) (nI u) am fp ge lv pu rf sp = some (am', ge', lv', rf', nI (rowsN g n)) ∧ RF n u a b g an ge' am' lv' rf' := by
  have hn := W.n16
  have hu := W.u12
  obtain ⟨ge1, e1, f1⟩ := X9_fill (N := 16) (f := ge) (x := 0) (by omega)
  obtain ⟨am1, e2, f2⟩ := X9_fill (N := 16) (f := am) (x := 0) (by omega)
  have h0 : RTk n g an ge1 am1 0 := fun p hp hg => by
    have hno : ¬ pr p < 12 := fun h => by have := W.gen hp h; omega
    refine ⟨by rw [f1 p (by omega), W.gen0 hp hno]; rfl, fun q => ?_⟩
    rw [f2 p (by omega), bt_zero, AN p hp q, if_neg hno]
  obtain ⟨am2, ge2, e3, f3⟩ := X1_passes W AN F h0
  obtain ⟨r, e4, f4⟩ := loop_all (fun k i (s : Int32) => p1_refresh_L71 ge2 (nI n) k (nI i) s) n (fun i s => s = nI (rowsN g i)) (fun r => r = nI (rowsN g n)) (by
      intro k s hs
      refine ⟨s, ?_, hs⟩
      show (if nI n ≤ nI n then some s else _) = some s
      rw [if_pos (nI_le (Nat.le_refl _) (by omega))]) (by
      intro k i s hi hs
      have hr : rowsN g i ≤ 16 := rowsN_le fun p hp => by have := W.glt (p := p) (by omega); omega
      refine ⟨nI (rowsN g (i + 1)), ?_, rfl⟩
      show (if nI n ≤ nI i then some s else lb (imax s (pAt 16 ge2 (nI i) + 1)) (fun t97 => lb (nI i + 1) (fun t100 => p1_refresh_L71 ge2 (nI n) k t100 t97))) = _
      have hg := W.glt hi
      rw [if_neg (nI_ge hi (by omega)), at_in (by omega) (by omega), (f3 i hi).1, n1, nI_add, hs, imax_nI (by omega) (by omega)]
      simp only [lb]
      rw [nI_add]
      rfl) FU 0 (nI 0) (Nat.zero_le _) (by show n - 0 < 1024; omega) rfl
  obtain ⟨q, e5, f5⟩ := loop_all (fun k i (s : (Nat → Int32) × (Nat → Int32)) => p1_refresh_L108 fp ge2 sp (nI u) k (nI i) s.1 s.2) u
    (fun i s => ∀ w, w < i → s.1 w = nI (lw a b g w) ∧ s.2 w = rN (rw_ a b g w)) (fun s => ∀ w, w < u → s.1 w = nI (lw a b g w) ∧ s.2 w = rN (rw_ a b g w)) (by
      intro k s hs
      refine ⟨s, ?_, hs⟩
      show (if nI u ≤ nI u then some (s.1, s.2) else _) = some s
      rw [if_pos (nI_le (Nat.le_refl _) (by omega))]) (by
      intro k i s hi hs
      refine ⟨(upd s.1 i (nI (lw a b g i)), upd s.2 i (rN (rw_ a b g i))), ?_, fun w hw => ?_⟩
      · show (if nI u ≤ nI i then some (s.1, s.2) else lb (p1_noteLevel fp ge2 s.1 s.2 sp (nI i)) (uc2 fun l1 r1 => lb (nI i + 1) (fun t121 => p1_refresh_L108 fp ge2 sp (nI u) k t121 l1 r1))) = _
        rw [if_neg (nI_ge hi (by omega)), X1_noteLevel W F (fun p hp => (f3 p hp).1) hi]
        simp only [lb, uc2]
        rw [n1, nI_add]
      · dsimp only
        by_cases e : w = i
        · rw [e, upd_eq, upd_eq]; exact ⟨rfl, rfl⟩
        · rw [upd_ne e, upd_ne e]; exact hs w (by omega)) FU 0 (lv, rf) (Nat.zero_le _) (by show u - 0 < 1024; omega) (fun w hw => by omega)
  refine ⟨am2, ge2, q.1, q.2, ?_, f3, f5⟩
  unfold p1_refresh
  rw [e1]
  simp only [ob]
  rw [e2]
  simp only
  rw [n0, e3]
  simp only [uc2]
  unfold p1_refresh_J64
  rw [n0, e4]
  simp only [ob]
  unfold p1_refresh_J106
  rw [n0, e5, f4]
  rfl
end FAM2
